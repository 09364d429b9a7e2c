section
/-! ===== Int32 by its bits: bt x i ===== -/
def bt (x : Int32) (i : Nat) : Bool := x.toBitVec.getLsbD i
theorem b_ext {x y : Int32} (h : ∀ i, i < 32 → bt x i = bt y i) : x = y := Int32.toBitVec_inj.mp (BitVec.eq_of_getLsbD_eq (fun i hi => h i hi))
theorem b_or (x y : Int32) (i : Nat) : bt (x ||| y) i = (bt x i || bt y i) := by unfold bt; rw [Int32.toBitVec_or, BitVec.getLsbD_or]
theorem b_and (x y : Int32) (i : Nat) : bt (x &&& y) i = (bt x i && bt y i) := by unfold bt; rw [Int32.toBitVec_and, BitVec.getLsbD_and]
theorem b_xor (x y : Int32) (i : Nat) : bt (x ^^^ y) i = (bt x i ^^ bt y i) := by unfold bt; rw [Int32.toBitVec_xor, BitVec.getLsbD_xor]
theorem b_big {x : Int32} {i : Nat} (h : 32 ≤ i) : bt x i = false := BitVec.getLsbD_of_ge _ _ h
theorem b_255 (i : Nat) : bt 255 i = decide (i < 8) := by
  rcases Nat.lt_or_ge i 32 with h | h
  · exact (by decide +kernel : ∀ i, i < 32 → bt 255 i = decide (i < 8)) i h
  · rw [b_big h, decide_eq_false (by omega)]
theorem b_65535 (i : Nat) : bt 65535 i = decide (i < 16) := by
  rcases Nat.lt_or_ge i 32 with h | h
  · exact (by decide +kernel : ∀ i, i < 32 → bt 65535 i = decide (i < 16)) i h
  · rw [b_big h, decide_eq_false (by omega)]
theorem b_m1 : ∀ i, i < 32 → bt (-1) i = true := by decide +kernel
theorem b_0 (i : Nat) : bt 0 i = false := BitVec.getLsbD_zero
theorem s_l : ∀ n, n < 32 → ((nI n &&& 31).toBitVec.smod 32).toNat = n := by decide +kernel
theorem s_u : ∀ n, n < 32 → (((nI n).toUInt32 &&& Int32.toUInt32 31).toBitVec % 32).toNat = n := by decide +kernel
theorem b_shl (n : Nat) (hn : n < 32) (x : Int32) {i : Nat} (hi : i < 32) : bt (x <<< (nI n &&& 31)) i = (decide (n ≤ i) && bt x (i - n)) := by
  unfold bt
  rw [Int32.toBitVec_shiftLeft]
  show (x.toBitVec <<< ((nI n &&& 31).toBitVec.smod 32).toNat).getLsbD i = _
  rw [s_l n hn, BitVec.getLsbD_shiftLeft]
  rcases Nat.lt_or_ge i n with h | h
  · simp [h, Nat.not_le.mpr h]
  · simp [hi, h, Nat.not_lt.mpr h]
theorem b_ushr (n : Nat) (hn : n < 32) (x : Int32) (i : Nat) : bt ((x.toUInt32 >>> ((nI n).toUInt32 &&& Int32.toUInt32 31)).toInt32) i = bt x (n + i) := by
  show (x.toUInt32 >>> ((nI n).toUInt32 &&& Int32.toUInt32 31)).toBitVec.getLsbD i = x.toUInt32.toBitVec.getLsbD (n + i)
  rw [UInt32.toBitVec_shiftRight]
  show (x.toUInt32.toBitVec >>> (((nI n).toUInt32 &&& Int32.toUInt32 31).toBitVec % 32).toNat).getLsbD i = _
  rw [s_u n hn, BitVec.getLsbD_ushiftRight]
theorem b_sshr (n : Nat) (hn : n < 32) (x : Int32) {i : Nat} (hi : i < 32) : bt (x >>> (nI n &&& 31)) i = if n + i < 32 then bt x (n + i) else bt x 31 := by
  unfold bt
  rw [Int32.toBitVec_shiftRight]
  show (x.toBitVec.sshiftRight ((nI n &&& 31).toBitVec.smod 32).toNat).getLsbD i = _
  rw [s_l n hn, BitVec.getLsbD_sshiftRight, BitVec.msb_eq_getLsbD_last]
  simp [hi]
theorem b_shl8 (x : Int32) {i : Nat} (hi : i < 32) : bt (x <<< ((8 : Int32) &&& 31)) i = (decide (8 ≤ i) && bt x (i - 8)) := b_shl 8 (by omega) x hi
theorem b_shl16 (x : Int32) {i : Nat} (hi : i < 32) : bt (x <<< ((16 : Int32) &&& 31)) i = (decide (16 ≤ i) && bt x (i - 16)) := b_shl 16 (by omega) x hi
theorem b_shl24 (x : Int32) {i : Nat} (hi : i < 32) : bt (x <<< ((24 : Int32) &&& 31)) i = (decide (24 ≤ i) && bt x (i - 24)) := b_shl 24 (by omega) x hi
theorem b_sshr8 (x : Int32) {i : Nat} (hi : i < 32) : bt (x >>> ((8 : Int32) &&& 31)) i = if 8 + i < 32 then bt x (8 + i) else bt x 31 := b_sshr 8 (by omega) x hi
theorem pk_us {f : Nat → Int32} {k : Nat} {x : Int32} : upd f k x k = x := if_pos rfl
theorem pk_un {f : Nat → Int32} {k j : Nat} {x : Int32} (h : j ≠ k) : upd f k x j = f j := if_neg h
theorem pk_m1 (n : Nat) : nI (n + 1) + (-1) = nI n := by
  rw [← nI_1, Int32.add_assoc, show (1 : Int32) + (-1) = 0 from rfl, Int32.add_zero]
theorem pk_ix (x : Int32) {n : Nat} (hn : n < 2 ^ 31) : x < 0 ∨ nI n ≤ x ∨ ∃ j : Nat, j < n ∧ x = nI j := by
  by_cases h : x < 0
  · exact Or.inl h
  · obtain ⟨j, hj, rfl⟩ := nI_of h
    by_cases h2 : j < n
    · exact Or.inr (Or.inr ⟨j, h2, rfl⟩)
    · exact Or.inr (Or.inl (nI_le (by omega) hj))
theorem pk_le {x y : Int32} {A B : Prop} (a b : Nat) (f : a ≤ b → A) (g : b < a → B) (hx : x = nI a := by rfl) (hy : y = nI b := by rfl) (ha : a < 2 ^ 31 := by omega) (hb : b < 2 ^ 31 := by omega) : (x ≤ y → A) ∧ (¬ x ≤ y → B) := by
  subst hx hy
  rw [nI_leI ha hb]
  exact ⟨f, fun z => g (by omega)⟩
theorem pk_lt {x y : Int32} {A B : Prop} (a b : Nat) (f : a < b → A) (g : b ≤ a → B) (hx : x = nI a := by rfl) (hy : y = nI b := by rfl) (ha : a < 2 ^ 31 := by omega) (hb : b < 2 ^ 31 := by omega) : (x < y → A) ∧ (¬ x < y → B) := by
  subst hx hy
  rw [nI_ltI ha hb]
  exact ⟨f, fun z => g (by omega)⟩
theorem pk_eq {x y : Int32} {A B : Prop} (a b : Nat) (f : a = b → A) (g : a ≠ b → B) (hx : x = nI a := by rfl) (hy : y = nI b := by rfl) (ha : a < 2 ^ 31 := by omega) (hb : b < 2 ^ 31 := by omega) : (x = y → A) ∧ (¬ x = y → B) := by
  subst hx hy
  rw [nI_eq ha hb]
  exact ⟨f, g⟩
theorem pk_in {x : Int32} (n N : Nat) (h : n < N) (hx : x = nI n := by rfl) (hN : N < 2 ^ 31 := by omega) : vp_in x N := by
  subst hx
  exact vp_in_nI h hN
theorem pk_cl {x : Int32} (n : Nat) (hx : x = nI n := by rfl) (h : n < 2 ^ 31 := by omega) : x.toNatClampNeg = n := by
  subst hx
  exact nI_clamp h
theorem pk_loop {σ : Type} (W : Nat → Nat → σ → Prop) (I : Nat → σ → Prop) (e i0 : Nat) (s : σ) (hi : i0 ≤ e) (h0 : I i0 s) (hx : ∀ n s, I e s → W (n + 1) e s)
    (hs : ∀ n i s, i < e → I i s → (∀ s', I (i + 1) s' → W n (i + 1) s') → W (n + 1) i s) : ∃ n, W n i0 s :=
  ⟨e + 1, loop_i W I e hx hs (e + 1) i0 s hi (by omega) h0⟩
end
section
/-! ===== sets of objects as bits ===== -/
theorem eh_lt {S : Int32} {i : Nat} (h : bt S i = true) : i < 32 := by
  rcases Nat.lt_or_ge i 32 with h1 | h1
  · exact h1
  · rw [b_big h1] at h; exact absurd h (by decide)
theorem eh_one : ∀ j, j < 32 → bt 1 j = decide (j = 0) := by decide +kernel
theorem eh_val (S : Int32) {i : Nat} (hi : i < 32) : (S >>> (nI i &&& 31)) &&& 1 = if bt S i = true then 1 else 0 := by
  apply b_ext
  intro j hj
  rw [b_and, b_sshr i hi S hj, eh_one j hj]
  by_cases h0 : j = 0
  · subst h0
    rw [if_pos (by omega), Nat.add_zero]
    cases hb : bt S i
    · rw [if_neg (by decide), b_0]; rfl
    · rw [if_pos rfl, eh_one 0 (by omega)]; rfl
  · rw [decide_eq_false h0, Bool.and_false]
    cases hb : bt S i
    · rw [if_neg (by decide), b_0]
    · rw [if_pos rfl, eh_one j hj, decide_eq_false h0]
theorem eh_t1 (S : Int32) {i : Nat} (hi : i < 32) : (S >>> (nI i &&& 31)) &&& 1 = 1 ↔ bt S i = true := by
  rw [eh_val S hi]
  cases hb : bt S i
  · rw [if_neg (by decide)]; decide
  · rw [if_pos rfl]; decide
theorem eh_t0 (S : Int32) {i : Nat} (hi : i < 32) : (S >>> (nI i &&& 31)) &&& 1 = 0 ↔ bt S i = false := by
  rw [eh_val S hi]
  cases hb : bt S i
  · rw [if_neg (by decide)]; decide
  · rw [if_pos rfl]; decide
theorem eh_bit {i j : Nat} (hi : i < 32) (hj : j < 32) : bt ((1 : Int32) <<< (nI i &&& 31)) j = decide (j = i) := by
  rw [b_shl i hi 1 hj, eh_one (j - i) (by omega), Bool.eq_iff_iff]
  simp only [Bool.and_eq_true, decide_eq_true_eq]
  omega
theorem eh_m1 : ∀ i, i < 32 → ¬ (-1 : Int32) = nI i := by decide +kernel
theorem eh_inj {i j : Nat} (hi : i < 32) (hj : j < 32) (h : nI i = nI j) : i = j := (nI_eq (by omega) (by omega)).mp h
theorem eh_not (S : Int32) {i : Nat} (hi : i < 32) : bt (S ^^^ (-1)) i = !bt S i := by
  rw [b_xor, b_m1 i hi, Bool.xor_true]
/-- a pointer: nothing, or an object of V -/
def eh_P (V x : Int32) : Prop := x = -1 ∨ ∃ j, j < 20 ∧ bt V j = true ∧ x = nI j
/-- the bit of a pointer -/
def eh_bo (x : Int32) : Int32 := if x = -1 then 0 else (1 : Int32) <<< (x &&& 31)
theorem eh_bo_m : eh_bo (-1) = 0 := if_pos rfl
theorem eh_bo_n {j : Nat} (h : j < 32) : eh_bo (nI j) = (1 : Int32) <<< (nI j &&& 31) := if_neg (fun e => eh_m1 j h e.symm)
theorem eh_bob {V x : Int32} (h : eh_P V x) {i : Nat} (hi : i < 32) : bt (eh_bo x) i = true ↔ x = nI i := by
  rcases h with h | ⟨j, hj, _, h⟩
  · subst h
    rw [eh_bo_m, b_0]
    exact ⟨fun e => absurd e (by decide), fun e => absurd e (eh_m1 i hi)⟩
  · subst h
    rw [eh_bo_n (by omega), eh_bit (by omega) hi, decide_eq_true_eq]
    exact ⟨fun e => by rw [e], fun e => (eh_inj (by omega) hi e).symm⟩
def eh_sub (S T : Int32) : Prop := ∀ i, bt S i = true → bt T i = true
theorem eh_sub_r (S : Int32) : eh_sub S S := fun _ h => h
theorem eh_anti {S T : Int32} (h : eh_sub S T) (g : eh_sub T S) : S = T :=
  b_ext (fun i _ => Bool.eq_iff_iff.mpr ⟨h i, g i⟩)
/-- how many of the first n are in p -/
def eh_cn (p : Nat → Bool) : Nat → Nat
  | 0 => 0
  | n + 1 => eh_cn p n + (if p n = true then 1 else 0)
theorem eh_cn_le (p : Nat → Bool) : ∀ n, eh_cn p n ≤ n := by
  intro n
  induction n with
  | zero => exact Nat.le_refl _
  | succ n ih => show eh_cn p n + _ ≤ n + 1; split <;> omega
theorem eh_cn_mono {p q : Nat → Bool} (h : ∀ i, p i = true → q i = true) : ∀ n, eh_cn p n ≤ eh_cn q n := by
  intro n
  induction n with
  | zero => exact Nat.le_refl _
  | succ n ih =>
    show eh_cn p n + (if p n = true then 1 else 0) ≤ eh_cn q n + (if q n = true then 1 else 0)
    by_cases hp : p n = true
    · rw [if_pos hp, if_pos (h n hp)]; omega
    · rw [if_neg hp]; omega
theorem eh_cn_lt {p q : Nat → Bool} (h : ∀ i, p i = true → q i = true) {i : Nat} (hq : q i = true) (hp : ¬ p i = true) : ∀ n, i < n → eh_cn p n < eh_cn q n := by
  intro n
  induction n with
  | zero => intro hi; omega
  | succ n ih =>
    intro hi
    show eh_cn p n + (if p n = true then 1 else 0) < eh_cn q n + (if q n = true then 1 else 0)
    rcases Nat.lt_or_ge i n with h1 | h1
    · have := ih h1
      by_cases hp2 : p n = true
      · rw [if_pos hp2, if_pos (h n hp2)]; omega
      · rw [if_neg hp2]; omega
    · have e : i = n := by omega
      subst e
      have := eh_cn_mono h i
      rw [if_neg hp, if_pos hq]; omega
theorem eh_cn_all {p : Nat → Bool} : ∀ n, n ≤ eh_cn p n → ∀ i, i < n → p i = true := by
  intro n
  induction n with
  | zero => intro _ i hi; omega
  | succ n ih =>
    intro h i hi
    have h2 : n + 1 ≤ eh_cn p n + (if p n = true then 1 else 0) := h
    have h3 := eh_cn_le p n
    by_cases hp : p n = true
    · rw [if_pos hp] at h2
      rcases Nat.lt_or_ge i n with h1 | h1
      · exact ih (by omega) i h1
      · have e : i = n := by omega
        rw [e]; exact hp
    · rw [if_neg hp] at h2; omega
theorem eh_cn_eq {p q : Nat → Bool} : ∀ n, (∀ i, i < n → p i = q i) → eh_cn p n = eh_cn q n := by
  intro n
  induction n with
  | zero => intro _; rfl
  | succ n ih =>
    intro h
    show eh_cn p n + (if p n = true then 1 else 0) = eh_cn q n + (if q n = true then 1 else 0)
    rw [ih (fun i hi => h i (by omega)), h n (by omega)]
/-! ===== what an object keeps; closed sets; the least one ===== -/
/-- the pointer x points into S -/
def eh_hb (S x : Int32) : Bool := !decide (x = -1) && bt S x.toNatClampNeg
theorem eh_hb_m (S : Int32) : eh_hb S (-1) = false := by
  unfold eh_hb; rw [decide_eq_true rfl]; rfl
theorem eh_hb_n (S : Int32) {j : Nat} (h : j < 32) : eh_hb S (nI j) = bt S j := by
  unfold eh_hb; rw [decide_eq_false (fun e => eh_m1 j h e.symm), nI_clamp (by omega)]; rfl
theorem eh_hb_mono {S T x : Int32} (h : eh_sub S T) (g : eh_hb S x = true) : eh_hb T x = true := by
  unfold eh_hb at g ⊢
  rw [Bool.and_eq_true] at g ⊢
  exact ⟨g.1, h _ g.2⟩
theorem eh_az {V S x : Int32} (hx : eh_P V x) : (eh_bo x &&& S) = 0 ↔ eh_hb S x = false := by
  rcases hx with hx | ⟨j, hj, _, hx⟩
  · subst hx
    rw [eh_bo_m, eh_hb_m]
    refine ⟨fun _ => rfl, fun _ => b_ext (fun i _ => by rw [b_and, b_0]; rfl)⟩
  · subst hx
    rw [eh_hb_n S (by omega)]
    constructor
    · intro e
      have h1 : bt (eh_bo (nI j) &&& S) j = bt 0 j := by rw [e]
      rw [b_and, b_0, eh_bo_n (by omega), eh_bit (by omega) (by omega), decide_eq_true rfl, Bool.true_and] at h1
      exact h1
    · intro e
      refine b_ext (fun i hi => ?_)
      rw [b_and, b_0, eh_bo_n (by omega), eh_bit (by omega) hi]
      by_cases h : i = j
      · rw [h, e, Bool.and_false]
      · rw [decide_eq_false h, Bool.false_and]
theorem eh_an {V S x : Int32} (hx : eh_P V x) : (eh_bo x &&& (S ^^^ (-1))) = 0 ↔ (x = -1 ∨ eh_hb S x = true) := by
  rw [eh_az hx]
  rcases hx with hx | ⟨j, hj, _, hx⟩
  · subst hx
    rw [eh_hb_m]
    exact ⟨fun _ => Or.inl rfl, fun _ => rfl⟩
  · subst hx
    rw [eh_hb_n _ (by omega), eh_hb_n _ (by omega), eh_not S (by omega)]
    constructor
    · intro e
      refine Or.inr ?_
      cases hb : bt S j
      · rw [hb] at e; exact absurd e (by decide)
      · rfl
    · rintro (e | e)
      · exact absurd e.symm (eh_m1 j (by omega))
      · rw [e]; rfl
def eh_k (K A B : Nat → Int32) (o : Nat) (S : Int32) (p : Nat) : Prop :=
  (B o = nI p ∧ (K o = 2 → eh_hb S (A o) = true)) ∨ (K o = 0 ∧ A o = nI p)
theorem eh_k_mono {K A B : Nat → Int32} {o : Nat} {S T : Int32} {p : Nat} (h : eh_sub S T) (g : eh_k K A B o S p) : eh_k K A B o T p := by
  rcases g with ⟨g1, g2⟩ | g
  · exact Or.inl ⟨g1, fun e => eh_hb_mono h (g2 e)⟩
  · exact Or.inr g
def eh_Cn (K A B : Nat → Int32) (em : Int32) (n : Nat) (S : Int32) : Prop :=
  ∀ o, o < n → nI o ≠ em → bt S o = true → ∀ p, p < 20 → eh_k K A B o S p → bt S p = true
def eh_C (K A B : Nat → Int32) (em S : Int32) : Prop := eh_Cn K A B em 20 S
/-- a round, done for the objects below n: from S to L -/
def eh_G (K A B : Nat → Int32) (em S : Int32) (n : Nat) (L : Int32) : Prop :=
  eh_sub S L ∧ (∀ T, eh_C K A B em T → eh_sub S T → eh_sub L T) ∧ (L = S → eh_Cn K A B em n S)
theorem eh_G0 (K A B : Nat → Int32) (em S : Int32) : eh_G K A B em S 0 S :=
  ⟨eh_sub_r S, fun _ _ h => h, fun _ o ho => absurd ho (by omega)⟩
theorem eh_Gskip {K A B : Nat → Int32} {em S L : Int32} {o : Nat} (h : eh_G K A B em S o L) (hs : nI o = em ∨ ¬ bt S o = true) : eh_G K A B em S (o + 1) L := by
  obtain ⟨h1, h2, h3⟩ := h
  refine ⟨h1, h2, fun e o' ho' he hb => ?_⟩
  rcases Nat.lt_or_ge o' o with h4 | h4
  · exact h3 e o' h4 he hb
  · have e2 : o' = o := by omega
    subst e2
    rcases hs with hs | hs
    · exact absurd hs he
    · exact absurd hb hs
theorem eh_Gadd {K A B : Nat → Int32} {em S M L r : Int32} {o : Nat} (ho : o < 20) (h : eh_G K A B em S o L) (hSM : eh_sub S M) (hML : eh_sub M L) (hb : bt M o = true) (he : nI o ≠ em)
    (hr : ∀ p, p < 32 → (bt r p = true ↔ eh_k K A B o M p)) (h20 : ∀ p, bt r p = true → p < 20) : eh_G K A B em S (o + 1) (L ||| r) := by
  obtain ⟨h1, h2, h3⟩ := h
  refine ⟨fun i hi => by rw [b_or, h1 i hi]; rfl, fun T hT hST i hi => ?_, fun e o' ho' he' hb' => ?_⟩
  · rw [b_or, Bool.or_eq_true] at hi
    have hLT := h2 T hT hST
    rcases hi with hi | hi
    · exact hLT i hi
    · have hMT : eh_sub M T := fun j hj => hLT j (hML j hj)
      exact hT o ho he (hMT o hb) i (h20 i hi) (eh_k_mono hMT ((hr i (eh_lt hi)).mp hi))
  · have hL : L = S := by
      refine eh_anti (fun i hi => ?_) h1
      have : bt (L ||| r) i = true := by rw [b_or, hi]; rfl
      rw [e] at this; exact this
    rcases Nat.lt_or_ge o' o with h4 | h4
    · exact h3 hL o' h4 he' hb'
    · have e2 : o' = o := by omega
      subst e2
      intro p hp hk
      have hrp : bt r p = true := (hr p (by omega)).mpr (eh_k_mono hSM hk)
      have : bt (L ||| r) p = true := by rw [b_or, hrp, Bool.or_true]
      rw [e] at this; exact this
/-- after k rounds from S0 -/
def eh_I (K A B : Nat → Int32) (em S0 : Int32) (k : Nat) (S : Int32) : Prop :=
  eh_sub S0 S ∧ (∀ T, eh_C K A B em T → eh_sub S0 T → eh_sub S T) ∧ (eh_C K A B em S ∨ k ≤ eh_cn (bt S) 20)
theorem eh_I0 (K A B : Nat → Int32) (em S : Int32) : eh_I K A B em S 0 S := ⟨eh_sub_r S, fun _ _ h => h, Or.inr (Nat.zero_le _)⟩
theorem eh_I1 {K A B : Nat → Int32} {em S0 S S' V : Int32} {k : Nat} (hV : ∀ i, bt V i = true → i < 20) (hVC : eh_C K A B em V) (h0 : eh_sub S0 V)
    (h : eh_I K A B em S0 k S) (g : eh_G K A B em S 20 S') : eh_I K A B em S0 (k + 1) S' := by
  obtain ⟨h1, h2, h3⟩ := h
  obtain ⟨g1, g2, g3⟩ := g
  refine ⟨fun i hi => g1 i (h1 i hi), fun T hT hS => g2 T hT (h2 T hT hS), ?_⟩
  by_cases e : S' = S
  · rw [e]; exact Or.inl (g3 e)
  · have hn : ¬ eh_C K A B em S := fun hc => e (eh_anti (g2 S hc (eh_sub_r S)) g1)
    have hk : k ≤ eh_cn (bt S) 20 := h3.resolve_left hn
    refine Or.inr ?_
    have hSV : eh_sub S' V := g2 V hVC (h2 V hVC h0)
    have hex : ∃ i, bt S' i = true ∧ ¬ bt S i = true := by
      apply Classical.byContradiction
      intro hne
      refine e (eh_anti (fun i hi => ?_) g1)
      apply Classical.byContradiction
      intro hni
      exact hne ⟨i, hi, hni⟩
    obtain ⟨i, hi, hni⟩ := hex
    have := eh_cn_lt (p := bt S) (q := bt S') g1 hi hni 20 (hV i (hSV i hi))
    omega
theorem eh_I20 {K A B : Nat → Int32} {em S0 S : Int32} (h : eh_I K A B em S0 20 S) : eh_C K A B em S := by
  rcases h.2.2 with h1 | h1
  · exact h1
  · intro o _ _ _ p hp _
    exact eh_cn_all 20 h1 p hp
/-- S has what roots and queue point to -/
def eh_0 (R Q : Nat → Int32) (n : Nat) (S : Int32) : Prop :=
  ∀ p, p < 32 → (bt S p = true ↔ (∃ r, r < 4 ∧ R r = nI p) ∨ (∃ i, i < n ∧ Q i = nI p))
theorem eh_0u {R Q : Nat → Int32} {n : Nat} {S T : Int32} (h : eh_0 R Q n S) (g : eh_0 R Q n T) : S = T :=
  b_ext (fun p hp => Bool.eq_iff_iff.mpr ((h p hp).trans (g p hp).symm))
/-- S is what is alive -/
def eh_A (K A B R Q : Nat → Int32) (n : Nat) (em S : Int32) : Prop :=
  ∃ S0, eh_0 R Q n S0 ∧ eh_sub S0 S ∧ eh_C K A B em S ∧ ∀ T, eh_C K A B em T → eh_sub S0 T → eh_sub S T
theorem eh_Au {K A B R Q : Nat → Int32} {n : Nat} {em S T : Int32} (h : eh_A K A B R Q n em S) (g : eh_A K A B R Q n em T) : S = T := by
  obtain ⟨S0, a0, a1, a2, a3⟩ := h
  obtain ⟨T0, b0, b1, b2, b3⟩ := g
  have e := eh_0u a0 b0
  subst e
  exact eh_anti (a3 T b2 b1) (b3 S a2 a1)
theorem eh_AI {K A B R Q : Nat → Int32} {n : Nat} {em S0 S : Int32} (h0 : eh_0 R Q n S0) (h : eh_I K A B em S0 20 S) : eh_A K A B R Q n em S :=
  ⟨S0, h0, h.1, eh_I20 h, h.2.1⟩
end
section
/-! ===== the queue ===== -/
theorem eh_pig : ∀ (m n : Nat) (f : Nat → Nat), (∀ i, i < n → f i < m) → (∀ i j, i < n → j < n → f i = f j → i = j) → n ≤ m := by
  intro m
  induction m with
  | zero =>
    intro n f h _
    rcases Nat.eq_zero_or_pos n with e | e
    · omega
    · exact absurd (h 0 e) (by omega)
  | succ m ih =>
    intro n f h hi
    by_cases hx : ∃ i, i < n ∧ f i = m
    · obtain ⟨i0, h0, e0⟩ := hx
      have h5 : n - 1 ≤ m := by
        refine ih (n - 1) (fun i => if i = i0 then f (n - 1) else f i) (fun i hin => ?_) (fun i j hin hjn => ?_)
        · show (if i = i0 then f (n - 1) else f i) < m
          by_cases e : i = i0
          · rw [if_pos e]
            have h1 := h (n - 1) (by omega)
            have h2 : f (n - 1) ≠ m := fun e3 => by
              have := hi (n - 1) i0 (by omega) h0 (e3.trans e0.symm)
              omega
            omega
          · rw [if_neg e]
            have h1 := h i (by omega)
            have h2 : f i ≠ m := fun e3 => e (hi i i0 (by omega) h0 (e3.trans e0.symm))
            omega
        · show (if i = i0 then f (n - 1) else f i) = (if j = i0 then f (n - 1) else f j) → i = j
          by_cases ei : i = i0
          · by_cases ej : j = i0
            · intro _; omega
            · rw [if_pos ei, if_neg ej]
              intro e
              have := hi (n - 1) j (by omega) (by omega) e
              omega
          · by_cases ej : j = i0
            · rw [if_neg ei, if_pos ej]
              intro e
              have := hi i (n - 1) (by omega) (by omega) e
              omega
            · rw [if_neg ei, if_neg ej]
              intro e
              exact hi i j (by omega) (by omega) e
      omega
    · refine Nat.le_succ_of_le (ih n f (fun i hin => ?_) hi)
      have h1 := h i hin
      have h2 : f i ≠ m := fun e => hx ⟨i, hin, e⟩
      omega
def eh_qn (D : Nat → Bool) (n : Nat) : Nat → Nat
  | 0 => n
  | o + 1 => if D o = true then eh_qn D n o + 1 else eh_qn D n o
def eh_qf (D : Nat → Bool) (n : Nat) (Q : Nat → Int32) : Nat → Nat → Int32
  | 0 => Q
  | o + 1 => if D o = true then upd (eh_qf D n Q o) (eh_qn D n o) (nI o) else eh_qf D n Q o
theorem eh_qnt {D : Nat → Bool} {n o : Nat} (h : D o = true) : eh_qn D n (o + 1) = eh_qn D n o + 1 := if_pos h
theorem eh_qnf {D : Nat → Bool} {n o : Nat} (h : ¬ D o = true) : eh_qn D n (o + 1) = eh_qn D n o := if_neg h
theorem eh_qft {D : Nat → Bool} {n o : Nat} {Q : Nat → Int32} (h : D o = true) : eh_qf D n Q (o + 1) = upd (eh_qf D n Q o) (eh_qn D n o) (nI o) := if_pos h
theorem eh_qff {D : Nat → Bool} {n o : Nat} {Q : Nat → Int32} (h : ¬ D o = true) : eh_qf D n Q (o + 1) = eh_qf D n Q o := if_neg h
def eh_qI (D : Nat → Bool) (n : Nat) (Q : Nat → Int32) (o : Nat) : Prop :=
  n ≤ eh_qn D n o ∧ (∀ i, i < n → eh_qf D n Q o i = Q i) ∧
  (∀ i, i < eh_qn D n o → ∃ j, j < 20 ∧ eh_qf D n Q o i = nI j ∧ ((i < n ∧ D j = false) ∨ (j < o ∧ D j = true))) ∧
  (∀ i j, i < eh_qn D n o → j < eh_qn D n o → eh_qf D n Q o i = eh_qf D n Q o j → i = j)
theorem eh_qi {D : Nat → Bool} {n : Nat} {Q : Nat → Int32} (hQ : ∀ i, i < n → ∃ j, j < 20 ∧ Q i = nI j ∧ D j = false) (hi : ∀ i j, i < n → j < n → Q i = Q j → i = j) :
    ∀ o, o ≤ 20 → eh_qI D n Q o := by
  intro o
  induction o with
  | zero =>
    intro _
    refine ⟨Nat.le_refl _, fun i _ => rfl, fun i h => ?_, hi⟩
    obtain ⟨j, h1, h2, h3⟩ := hQ i h
    exact ⟨j, h1, h2, Or.inl ⟨h, h3⟩⟩
  | succ o ih =>
    intro ho
    obtain ⟨i1, i2, i3, i4⟩ := ih (by omega)
    by_cases hD : D o = true
    · unfold eh_qI
      rw [eh_qnt hD, eh_qft hD]
      refine ⟨by omega, fun i h => ?_, fun i h => ?_, ?_⟩
      · rw [pk_un (by omega)]; exact i2 i h
      · by_cases e : i = eh_qn D n o
        · rw [e, pk_us]
          exact ⟨o, by omega, rfl, Or.inr ⟨by omega, hD⟩⟩
        · rw [pk_un e]
          obtain ⟨j, h1, h2, h3⟩ := i3 i (by omega)
          refine ⟨j, h1, h2, ?_⟩
          rcases h3 with h3 | h3
          · exact Or.inl h3
          · exact Or.inr ⟨by omega, h3.2⟩
      · have key : ∀ i, i < eh_qn D n o → ¬ eh_qf D n Q o i = nI o := by
          intro i h e
          obtain ⟨j, h1, h2, h3⟩ := i3 i h
          have ej : j = o := eh_inj (by omega) (by omega) (h2.symm.trans e)
          subst ej
          rcases h3 with h3 | h3
          · rw [hD] at h3; exact absurd h3.2 (by decide)
          · omega
        intro i j h1 h2
        by_cases ei : i = eh_qn D n o
        · by_cases ej : j = eh_qn D n o
          · intro _; omega
          · rw [ei, pk_us, pk_un ej]
            intro e
            exact absurd e.symm (key j (by omega))
        · by_cases ej : j = eh_qn D n o
          · rw [ej, pk_us, pk_un ei]
            intro e
            exact absurd e (key i (by omega))
          · rw [pk_un ei, pk_un ej]
            exact i4 i j (by omega) (by omega)
    · unfold eh_qI
      rw [eh_qnf hD, eh_qff hD]
      refine ⟨i1, i2, fun i h => ?_, i4⟩
      obtain ⟨j, h1, h2, h3⟩ := i3 i h
      refine ⟨j, h1, h2, ?_⟩
      rcases h3 with h3 | h3
      · exact Or.inl h3
      · exact Or.inr ⟨by omega, h3.2⟩
theorem eh_q20 {n : Nat} {Q : Nat → Int32} (h : ∀ i, i < n → ∃ j, j < 20 ∧ Q i = nI j) (hi : ∀ i j, i < n → j < n → Q i = Q j → i = j) : n ≤ 20 := by
  refine eh_pig 20 n (fun i => (Q i).toNatClampNeg) (fun i hn => ?_) (fun i j h1 h2 e => ?_)
  · obtain ⟨j, hj, e⟩ := h i hn
    show (Q i).toNatClampNeg < 20
    rw [e, nI_clamp (by omega)]; exact hj
  · obtain ⟨a, ha, ea⟩ := h i h1
    obtain ⟨b, hb, eb⟩ := h j h2
    have e2 : (Q i).toNatClampNeg = (Q j).toNatClampNeg := e
    rw [ea, eb, nI_clamp (by omega), nI_clamp (by omega)] at e2
    exact hi i j h1 h2 (by rw [ea, eb, e2])
theorem eh_qle {D : Nat → Bool} {n : Nat} {Q : Nat → Int32} {o : Nat} (h : eh_qI D n Q o) : eh_qn D n o ≤ 20 :=
  eh_q20 (Q := eh_qf D n Q o) (fun i hi => by obtain ⟨j, h1, h2, _⟩ := h.2.2.1 i hi; exact ⟨j, h1, h2⟩) h.2.2.2
/-! ===== the state ===== -/
/-- X's own: m is the queue's length -/
def eh_X (m : Nat) (V W : Int32) (K A B R Q : Nat → Int32) : Prop :=
  (∀ i, bt V i = true → i < 20) ∧ eh_sub W V ∧
  (∀ o, bt V o = true → (K o = 0 ∨ K o = 1 ∨ K o = 2) ∧ eh_P V (A o) ∧ eh_P V (B o)) ∧
  (∀ r, r < 4 → eh_P V (R r)) ∧
  (∀ i, i < m → ∃ j, j < 20 ∧ bt V j = true ∧ Q i = nI j) ∧
  (∀ i j, i < m → j < m → Q i = Q j → i = j)
/-- Y's state beside it -/
def eh_Y (V W : Int32) (K A B R : Nat → Int32) (he Ky ey as bs Ry : Nat → Int32) : Prop :=
  (∀ o, o < 20 → he o = if bt V o = true then 1 else 0) ∧
  (∀ o, bt V o = true → Ky o = K o ∧ as o = A o + 1 ∧ bs o = B o + 1 ∧ ey o = if bt W o = true then 1 else 0) ∧
  (∀ r, r < 4 → Ry r = R r + 1)
theorem eh_X20 {m : Nat} {V W : Int32} {K A B R Q : Nat → Int32} (h : eh_X m V W K A B R Q) : m ≤ 20 :=
  eh_q20 (Q := Q) (fun i hi => by obtain ⟨j, h1, _, h2⟩ := h.2.2.2.2.1 i hi; exact ⟨j, h1, h2⟩) h.2.2.2.2.2
theorem eh_Pn {V x : Int32} {p : Nat} (h : eh_P V x) (hp : p < 32) (e : x = nI p) : bt V p = true := by
  rcases h with h | ⟨j, h1, h2, h3⟩
  · exact absurd (h.symm.trans e) (eh_m1 p hp)
  · have : j = p := eh_inj (by omega) hp (h3.symm.trans e)
    rw [← this]; exact h2
theorem eh_XC {m : Nat} {V W : Int32} {K A B R Q : Nat → Int32} (h : eh_X m V W K A B R Q) (em : Int32) : eh_C K A B em V := by
  intro o _ _ hb p hp hk
  obtain ⟨_, h2, h3⟩ := h.2.2.1 o hb
  rcases hk with hk | hk
  · exact eh_Pn h3 (by omega) hk.1
  · exact eh_Pn h2 (by omega) hk.2
theorem eh_X0 {m : Nat} {V W : Int32} {K A B R Q : Nat → Int32} (h : eh_X m V W K A B R Q) {S0 : Int32} (h0 : eh_0 R Q m S0) : eh_sub S0 V := by
  intro p hp
  have h32 := eh_lt hp
  rcases (h0 p h32).mp hp with ⟨r, hr, e⟩ | ⟨i, hi, e⟩
  · exact eh_Pn (h.2.2.2.1 r hr) h32 e
  · obtain ⟨j, hj, hb, e2⟩ := h.2.2.2.2.1 i hi
    have : j = p := eh_inj (by omega) h32 (e2.symm.trans e)
    rw [← this]; exact hb
theorem eh_XA {m : Nat} {V W : Int32} {K A B R Q : Nat → Int32} (h : eh_X m V W K A B R Q) {em S : Int32} (hA : eh_A K A B R Q m em S) : eh_sub S V := by
  obtain ⟨S0, a0, _, _, a3⟩ := hA
  exact a3 V (eh_XC h em) (eh_X0 h a0)
/-! ===== cleaning ===== -/
def eh_cA (K A : Nat → Int32) (Bf Nw : Int32) (o : Nat) : Int32 := if (K o = 1 ∧ eh_hb Bf (A o) = false) ∨ (K o = 2 ∧ eh_hb Nw (A o) = false) then -1 else A o
def eh_cB (K A B : Nat → Int32) (Nw : Int32) (o : Nat) : Int32 := if K o = 2 ∧ eh_hb Nw (A o) = false then -1 else B o
def eh_D (W Bf : Int32) (o : Nat) : Bool := bt W o && !bt Bf o
theorem eh_Dq {m : Nat} {V W Bf : Int32} {K A B R Q : Nat → Int32} (h : eh_X m V W K A B R Q) (hB : eh_A K A B R Q m (-1) Bf) : ∀ o, o ≤ 20 → eh_qI (eh_D W Bf) m Q o := by
  refine eh_qi (fun i hi => ?_) h.2.2.2.2.2
  obtain ⟨j, h1, h2, h3⟩ := h.2.2.2.2.1 i hi
  refine ⟨j, h1, h3, ?_⟩
  obtain ⟨S0, a0, a1, _, _⟩ := hB
  have : bt Bf j = true := a1 j ((a0 j (by omega)).mpr (Or.inr ⟨i, hi, h3⟩))
  unfold eh_D
  rw [this]
  exact Bool.and_false _
theorem eh_Pk {V T x : Int32} (h : eh_P V x) (g : ∀ j, j < 20 → x = nI j → bt T j = true) : eh_P T x := by
  rcases h with h | ⟨j, h1, _, h3⟩
  · exact Or.inl h
  · exact Or.inr ⟨j, h1, g j h1 h3, h3⟩
theorem eh_Ph {V T x : Int32} (h : eh_P V x) (g : ¬ eh_hb T x = false) : eh_P T x := by
  refine eh_Pk h (fun j hj e => ?_)
  rw [e, eh_hb_n T (by omega)] at g
  cases hb : bt T j
  · exact absurd hb g
  · rfl
/-- the state after a cleaning -/
theorem eh_clean {m : Nat} {V W Bf Nw V' W' : Int32} {K A B R Q A' B' : Nat → Int32} (h : eh_X m V W K A B R Q) (hB : eh_A K A B R Q m (-1) Bf)
    (hN : eh_A K A B R (eh_qf (eh_D W Bf) m Q 20) (eh_qn (eh_D W Bf) m 20) (-1) Nw)
    (hV' : ∀ i, i < 32 → (bt V' i = true ↔ bt V i = true ∧ bt Nw i = true)) (hW' : ∀ i, i < 32 → (bt W' i = true ↔ bt W i = true ∧ bt Bf i = true))
    (hA' : ∀ o, bt V' o = true → A' o = eh_cA K A Bf Nw o) (hB' : ∀ o, bt V' o = true → B' o = eh_cB K A B Nw o) :
    eh_X (eh_qn (eh_D W Bf) m 20) V' W' K A' B' R (eh_qf (eh_D W Bf) m Q 20) ∧ (∀ i, bt V' i = true ↔ bt Nw i = true) := by
  obtain ⟨q1, q2, q3, q4⟩ := eh_Dq h hB 20 (Nat.le_refl _)
  have hBV := eh_XA h hB
  obtain ⟨S0, a0, a1, a2, a3⟩ := hB
  obtain ⟨N0, b0, b1, b2, b3⟩ := hN
  obtain ⟨x1, x2, x3, x4, x5, x6⟩ := h
  have hq : ∀ i, i < eh_qn (eh_D W Bf) m 20 → ∃ j, j < 20 ∧ bt V j = true ∧ eh_qf (eh_D W Bf) m Q 20 i = nI j := by
    intro i hi
    obtain ⟨j, h1, h2, h3⟩ := q3 i hi
    refine ⟨j, h1, ?_, h2⟩
    rcases h3 with h3 | h3
    · obtain ⟨j', g1, g2, g3⟩ := x5 i h3.1
      have e : j' = j := eh_inj (by omega) (by omega) (g3.symm.trans ((q2 i h3.1).symm.trans h2))
      rw [← e]; exact g2
    · have h4 := h3.2
      unfold eh_D at h4
      rw [Bool.and_eq_true] at h4
      exact x2 j h4.1
  have hX2 : eh_X (eh_qn (eh_D W Bf) m 20) V W K A B R (eh_qf (eh_D W Bf) m Q 20) := ⟨x1, x2, x3, x4, hq, q4⟩
  have hNV : eh_sub Nw V := b3 V (eh_XC hX2 (-1)) (eh_X0 hX2 b0)
  have hBN : eh_sub Bf Nw := by
    refine a3 Nw b2 (fun p hp => b1 p ?_)
    have h32 := eh_lt hp
    refine (b0 p h32).mpr ?_
    rcases (a0 p h32).mp hp with h1 | ⟨i, hi, e⟩
    · exact Or.inl h1
    · exact Or.inr ⟨i, by omega, (q2 i hi).trans e⟩
  have hV2 : ∀ i, bt V' i = true ↔ bt Nw i = true := by
    intro i
    constructor
    · intro g; exact ((hV' i (eh_lt g)).mp g).2
    · intro g; exact (hV' i (eh_lt g)).mpr ⟨hNV i g, g⟩
  have hto : ∀ {x : Int32}, eh_P Nw x → eh_P V' x := fun g => eh_Pk g (fun j hj e => (hV2 j).mpr (eh_Pn g (by omega) e))
  refine ⟨⟨fun i g => x1 i ((hV' i (eh_lt g)).mp g).1, fun i g => ?_, fun o g => ?_, fun r hr => ?_, fun i hi => ?_, q4⟩, hV2⟩
  · exact (hV2 i).mpr (hBN i ((hW' i (eh_lt g)).mp g).2)
  · have gN := (hV2 o).mp g
    have gV := hNV o gN
    have o20 := x1 o gV
    obtain ⟨k1, k2, k3⟩ := x3 o gV
    have no1 : nI o ≠ (-1 : Int32) := fun e => eh_m1 o (by omega) e.symm
    have cl := b2 o o20 no1 gN
    rw [hA' o g, hB' o g]
    refine ⟨k1, hto ?_, hto ?_⟩
    · unfold eh_cA
      by_cases hc : (K o = 1 ∧ eh_hb Bf (A o) = false) ∨ (K o = 2 ∧ eh_hb Nw (A o) = false)
      · rw [if_pos hc]; exact Or.inl rfl
      · rw [if_neg hc]
        rcases k1 with e | e | e
        · exact eh_Pk k2 (fun j hj e2 => cl j hj (Or.inr ⟨e, e2⟩))
        · have g2 : ¬ eh_hb Bf (A o) = false := fun z => hc (Or.inl ⟨e, z⟩)
          have g3 := eh_Ph k2 g2
          exact eh_Pk g3 (fun j hj e2 => hBN j (eh_Pn g3 (by omega) e2))
        · exact eh_Ph k2 (fun z => hc (Or.inr ⟨e, z⟩))
    · unfold eh_cB
      by_cases hc : K o = 2 ∧ eh_hb Nw (A o) = false
      · rw [if_pos hc]; exact Or.inl rfl
      · rw [if_neg hc]
        refine eh_Pk k3 (fun j hj e2 => cl j hj (Or.inl ⟨e2, fun e => ?_⟩))
        cases hb : eh_hb Nw (A o)
        · exact absurd ⟨e, hb⟩ hc
        · rfl
  · refine eh_Pk (x4 r hr) (fun j hj e => (hV2 j).mpr (b1 j ((b0 j (by omega)).mpr (Or.inl ⟨r, hr, e⟩))))
  · obtain ⟨j, h1, _, h3⟩ := hq i hi
    exact ⟨j, h1, (hV2 j).mpr (b1 j ((b0 j (by omega)).mpr (Or.inr ⟨i, hi, h3⟩))), h3⟩
end
section
/-! ===== what a call does to the relation ===== -/
def eh_Z (m : Nat) (V W : Int32) (K A B R Q he Ky ey as bs Ry : Nat → Int32) : Prop :=
  eh_X m V W K A B R Q ∧ eh_Y V W K A B R he Ky ey as bs Ry
theorem eh_Pm {V T x : Int32} (h : eh_sub V T) (g : eh_P V x) : eh_P T x :=
  eh_Pk g (fun j hj e => h j (eh_Pn g (by omega) e))
theorem eh_start {R : Nat → Int32} (hR : ∀ r, r < 4 → R r = -1) : eh_Z 0 0 0 (fun _ => 0) (fun _ => 0) (fun _ => 0) R (fun _ => 0) (fun _ => 0) (fun _ => 0) (fun _ => 0) (fun _ => 0) (fun _ => 0) (fun _ => 0) := by
  refine ⟨⟨fun i h => ?_, eh_sub_r _, fun o h => ?_, fun r hr => Or.inl (hR r hr), fun i h => absurd h (by omega), fun i _ h => absurd h (by omega)⟩, fun o _ => ?_, fun o h => ?_, fun r hr => ?_⟩
  · rw [b_0] at h; exact absurd h (by decide)
  · rw [b_0] at h; exact absurd h (by decide)
  · rw [b_0]; rfl
  · rw [b_0] at h; exact absurd h (by decide)
  · rw [hR r hr]; show (0 : Int32) = -1 + 1; decide
theorem eh_bor {V : Int32} {o i : Nat} (ho : o < 32) : bt (V ||| ((1 : Int32) <<< (nI o &&& 31))) i = true ↔ bt V i = true ∨ i = o := by
  constructor
  · intro h
    have hi := eh_lt h
    rw [b_or, Bool.or_eq_true, eh_bit ho hi, decide_eq_true_eq] at h
    exact h
  · rintro (h | h)
    · rw [b_or, h]; rfl
    · subst h
      rw [b_or, eh_bit ho ho, decide_eq_true rfl, Bool.or_true]
theorem eh_if {p q : Bool} (h : p = true ↔ q = true) : (if p = true then (1 : Int32) else 0) = if q = true then 1 else 0 := by
  have : p = q := Bool.eq_iff_iff.mpr h
  rw [this]
theorem eh_make {m : Nat} {V W : Int32} {K A B R Q he Ky ey as bs Ry : Nat → Int32} (h : eh_Z m V W K A B R Q he Ky ey as bs Ry) {o r : Nat} (ho : o < 20) (hn : ¬ bt V o = true) (hr : r < 4)
    {kd : Int32} (hk : kd = 0 ∨ kd = 1 ∨ kd = 2) :
    eh_Z m (V ||| ((1 : Int32) <<< (nI o &&& 31))) W (upd K o kd) (upd A o (-1)) (upd B o (-1)) (upd R r (nI o)) Q (upd he o 1) (upd Ky o kd) (upd ey o 0) (upd as o 0) (upd bs o 0) (upd Ry r (nI o + 1)) := by
  obtain ⟨⟨x1, x2, x3, x4, x5, x6⟩, y1, y2, y3⟩ := h
  have hb : ∀ i, bt (V ||| ((1 : Int32) <<< (nI o &&& 31))) i = true ↔ bt V i = true ∨ i = o := fun i => eh_bor (by omega)
  have hs : eh_sub V (V ||| ((1 : Int32) <<< (nI o &&& 31))) := fun i hi => (hb i).mpr (Or.inl hi)
  refine ⟨⟨fun i g => ?_, fun i g => hs i (x2 i g), fun i g => ?_, fun i hi => ?_, fun i hi => ?_, x6⟩, fun i hi => ?_, fun i g => ?_, fun i hi => ?_⟩
  · rcases (hb i).mp g with g | g
    · exact x1 i g
    · omega
  · by_cases e : i = o
    · subst e
      rw [pk_us, pk_us, pk_us]
      exact ⟨hk, Or.inl rfl, Or.inl rfl⟩
    · rw [pk_un e, pk_un e, pk_un e]
      obtain ⟨a, b, c⟩ := x3 i (((hb i).mp g).resolve_right e)
      exact ⟨a, eh_Pm hs b, eh_Pm hs c⟩
  · by_cases e : i = r
    · subst e
      rw [pk_us]
      exact Or.inr ⟨o, ho, (hb o).mpr (Or.inr rfl), rfl⟩
    · rw [pk_un e]; exact eh_Pm hs (x4 i hi)
  · obtain ⟨j, a, b, c⟩ := x5 i hi
    exact ⟨j, a, hs j b, c⟩
  · by_cases e : i = o
    · subst e
      rw [pk_us, if_pos ((hb i).mpr (Or.inr rfl))]
    · rw [pk_un e, y1 i hi]
      exact eh_if ⟨fun g => (hb i).mpr (Or.inl g), fun g => ((hb i).mp g).resolve_right e⟩
  · by_cases e : i = o
    · subst e
      rw [pk_us, pk_us, pk_us, pk_us, pk_us, pk_us, pk_us, if_neg (fun z => hn (x2 i z))]
      exact ⟨rfl, by decide, by decide, rfl⟩
    · rw [pk_un e, pk_un e, pk_un e, pk_un e, pk_un e, pk_un e, pk_un e]
      exact y2 i (((hb i).mp g).resolve_right e)
  · by_cases e : i = r
    · subst e
      rw [pk_us, pk_us]
    · rw [pk_un e, pk_un e]; exact y3 i hi
theorem eh_updid (f : Nat → Int32) (k : Nat) : upd f k (f k) = f := by
  funext j
  by_cases e : j = k
  · rw [e, pk_us]
  · rw [pk_un e]
theorem eh_pointA {m : Nat} {V W : Int32} {K A B R Q he Ky ey as bs Ry : Nat → Int32} (h : eh_Z m V W K A B R Q he Ky ey as bs Ry) {o : Nat} {p : Int32} (hp : eh_P V p) :
    eh_Z m V W K (upd A o p) B R Q he Ky ey (upd as o (p + 1)) bs Ry := by
  obtain ⟨⟨x1, x2, x3, x4, x5, x6⟩, y1, y2, y3⟩ := h
  refine ⟨⟨x1, x2, fun i g => ?_, x4, x5, x6⟩, y1, fun i g => ?_, y3⟩
  · obtain ⟨a, b, c⟩ := x3 i g
    by_cases e : i = o
    · subst e; rw [pk_us]; exact ⟨a, hp, c⟩
    · rw [pk_un e]; exact ⟨a, b, c⟩
  · obtain ⟨a, b, c, d⟩ := y2 i g
    by_cases e : i = o
    · subst e; rw [pk_us, pk_us]; exact ⟨a, rfl, c, d⟩
    · rw [pk_un e, pk_un e]; exact ⟨a, b, c, d⟩
theorem eh_pointB {m : Nat} {V W : Int32} {K A B R Q he Ky ey as bs Ry : Nat → Int32} (h : eh_Z m V W K A B R Q he Ky ey as bs Ry) {o : Nat} {p : Int32} (hp : eh_P V p) :
    eh_Z m V W K A (upd B o p) R Q he Ky ey as (upd bs o (p + 1)) Ry := by
  obtain ⟨⟨x1, x2, x3, x4, x5, x6⟩, y1, y2, y3⟩ := h
  refine ⟨⟨x1, x2, fun i g => ?_, x4, x5, x6⟩, y1, fun i g => ?_, y3⟩
  · obtain ⟨a, b, c⟩ := x3 i g
    by_cases e : i = o
    · subst e; rw [pk_us]; exact ⟨a, b, hp⟩
    · rw [pk_un e]; exact ⟨a, b, c⟩
  · obtain ⟨a, b, c, d⟩ := y2 i g
    by_cases e : i = o
    · subst e; rw [pk_us, pk_us]; exact ⟨a, b, rfl, d⟩
    · rw [pk_un e, pk_un e]; exact ⟨a, b, c, d⟩
theorem eh_root {m : Nat} {V W : Int32} {K A B R Q he Ky ey as bs Ry : Nat → Int32} (h : eh_Z m V W K A B R Q he Ky ey as bs Ry) {r : Nat} {p : Int32} (hp : eh_P V p) :
    eh_Z m V W K A B (upd R r p) Q he Ky ey as bs (upd Ry r (p + 1)) := by
  obtain ⟨⟨x1, x2, x3, x4, x5, x6⟩, y1, y2, y3⟩ := h
  refine ⟨⟨x1, x2, x3, fun i hi => ?_, x5, x6⟩, y1, y2, fun i hi => ?_⟩
  · by_cases e : i = r
    · subst e; rw [pk_us]; exact hp
    · rw [pk_un e]; exact x4 i hi
  · by_cases e : i = r
    · subst e; rw [pk_us, pk_us]
    · rw [pk_un e, pk_un e]; exact y3 i hi
theorem eh_watch {m : Nat} {V W : Int32} {K A B R Q he Ky ey as bs Ry : Nat → Int32} (h : eh_Z m V W K A B R Q he Ky ey as bs Ry) {o : Nat} (ho : bt V o = true) :
    eh_Z m V (W ||| ((1 : Int32) <<< (nI o &&& 31))) K A B R Q he Ky (upd ey o 1) as bs Ry := by
  obtain ⟨⟨x1, x2, x3, x4, x5, x6⟩, y1, y2, y3⟩ := h
  have hb : ∀ i, bt (W ||| ((1 : Int32) <<< (nI o &&& 31))) i = true ↔ bt W i = true ∨ i = o := fun i => eh_bor (eh_lt ho)
  refine ⟨⟨x1, fun i g => ?_, x3, x4, x5, x6⟩, y1, fun i g => ?_, y3⟩
  · rcases (hb i).mp g with g | g
    · exact x2 i g
    · subst g; exact ho
  · obtain ⟨a, b, c, d⟩ := y2 i g
    refine ⟨a, b, c, ?_⟩
    by_cases e : i = o
    · subst e; rw [pk_us, if_pos ((hb i).mpr (Or.inr rfl))]
    · rw [pk_un e, d]
      exact eh_if ⟨fun g => (hb i).mpr (Or.inl g), fun g => ((hb i).mp g).resolve_right e⟩
theorem eh_take {m : Nat} {V W : Int32} {K A B R Q he Ky ey as bs Ry : Nat → Int32} (h : eh_Z (m + 1) V W K A B R Q he Ky ey as bs Ry) {r : Nat} {Q' : Nat → Int32} (hQ : ∀ i, i < m → Q' i = Q (i + 1)) :
    eh_Z m V W K A B (upd R r (Q 0)) Q' he Ky ey as bs (upd Ry r (Q 0 + 1)) := by
  have hp : eh_P V (Q 0) := by
    obtain ⟨j, a, b, c⟩ := h.1.2.2.2.2.1 0 (by omega)
    exact Or.inr ⟨j, a, b, c⟩
  have h2 := eh_root h (r := r) hp
  obtain ⟨⟨x1, x2, x3, x4, x5, x6⟩, y⟩ := h2
  refine ⟨⟨x1, x2, x3, x4, fun i hi => ?_, fun i j hi hj e => ?_⟩, y⟩
  · rw [hQ i hi]; exact x5 (i + 1) (by omega)
  · rw [hQ i hi, hQ j hj] at e
    have := x6 (i + 1) (j + 1) (by omega) (by omega) e
    omega
end
section
/-! ===== the pieces of the two searches ===== -/
theorem eh_k20 {V S : Int32} {K A B : Nat → Int32} {o p : Nat} (hA : eh_P V (A o)) (hB : eh_P V (B o)) (hp : p < 32) (h : eh_k K A B o S p) : p < 20 := by
  have key : ∀ {x : Int32}, eh_P V x → x = nI p → p < 20 := by
    intro x hx e
    rcases hx with hx | ⟨j, h1, _, h3⟩
    · exact absurd (hx.symm.trans e) (eh_m1 p hp)
    · have : j = p := eh_inj (by omega) hp (h3.symm.trans e)
      omega
  rcases h with h | h
  · exact key hB h.1
  · exact key hA h.2
theorem eh_kr0 {V S r : Int32} {K A B : Nat → Int32} {o : Nat} (hA : eh_P V (A o)) (hB : eh_P V (B o)) (e : K o = 0)
    (hr : ∀ p, p < 32 → (bt r p = true ↔ bt (eh_bo (A o)) p = true ∨ bt (eh_bo (B o)) p = true)) : ∀ p, p < 32 → (bt r p = true ↔ eh_k K A B o S p) := by
  intro p hp
  rw [hr p hp, eh_bob hA hp, eh_bob hB hp]
  unfold eh_k
  constructor
  · rintro (h | h)
    · exact Or.inr ⟨e, h⟩
    · exact Or.inl ⟨h, fun e2 => absurd (e.symm.trans e2) (by decide)⟩
  · rintro (h | h)
    · exact Or.inr h.1
    · exact Or.inl h.2
theorem eh_kr1 {V S : Int32} {K A B : Nat → Int32} {o : Nat} (hB : eh_P V (B o)) (e : ¬ K o = 0) (e2 : K o = 2 → eh_hb S (A o) = true) : ∀ p, p < 32 → (bt (eh_bo (B o)) p = true ↔ eh_k K A B o S p) := by
  intro p hp
  rw [eh_bob hB hp]
  unfold eh_k
  constructor
  · intro h; exact Or.inl ⟨h, e2⟩
  · rintro (h | h)
    · exact h.1
    · exact absurd h.1 e
theorem eh_kr2 {S : Int32} {K A B : Nat → Int32} {o : Nat} (e : K o = 2) (e2 : eh_hb S (A o) = false) : ∀ p, p < 32 → (bt 0 p = true ↔ eh_k K A B o S p) := by
  intro p hp
  rw [b_0]
  unfold eh_k
  constructor
  · intro h; exact absurd h (by decide)
  · rintro (h | h)
    · have := h.2 e; rw [e2] at this; exact this
    · exact absurd (h.1.symm.trans e) (by decide)
theorem eh_or0 (S : Int32) : S ||| 0 = S := b_ext (fun i _ => by rw [b_or, b_0, Bool.or_false])
theorem eh_Gadd2 {K A B : Nat → Int32} {em S M L r V : Int32} {o : Nat} (ho : o < 20) (h : eh_G K A B em S o L) (hSM : eh_sub S M) (hML : eh_sub M L) (hb : bt M o = true) (he : nI o ≠ em)
    (hA : eh_P V (A o)) (hB : eh_P V (B o)) (hr : ∀ p, p < 32 → (bt r p = true ↔ eh_k K A B o M p)) : eh_G K A B em S (o + 1) (L ||| r) :=
  eh_Gadd ho h hSM hML hb he hr (fun p hp => eh_k20 hA hB (eh_lt hp) ((hr p (eh_lt hp)).mp hp))
/-- S has what the first n roots point to -/
def eh_01 (R : Nat → Int32) (n : Nat) (S : Int32) : Prop := ∀ p, p < 32 → (bt S p = true ↔ ∃ r, r < n ∧ R r = nI p)
theorem eh_01z (R : Nat → Int32) : eh_01 R 0 0 := by
  intro p _
  rw [b_0]
  exact ⟨fun h => absurd h (by decide), fun ⟨r, h, _⟩ => absurd h (by omega)⟩
theorem eh_01s {V S : Int32} {R : Nat → Int32} {n : Nat} (h : eh_01 R n S) (hx : eh_P V (R n)) : eh_01 R (n + 1) (S ||| eh_bo (R n)) := by
  intro p hp
  rw [b_or, Bool.or_eq_true, h p hp, eh_bob hx hp]
  constructor
  · rintro (⟨r, h1, h2⟩ | h1)
    · exact ⟨r, by omega, h2⟩
    · exact ⟨n, by omega, h1⟩
  · rintro ⟨r, h1, h2⟩
    rcases Nat.lt_or_ge r n with h3 | h3
    · exact Or.inl ⟨r, h3, h2⟩
    · have e : r = n := by omega
      subst e; exact Or.inr h2
theorem eh_02z {S : Int32} {R Q : Nat → Int32} (h : eh_01 R 4 S) : eh_0 R Q 0 S := by
  intro p hp
  rw [h p hp]
  constructor
  · intro g; exact Or.inl g
  · rintro (g | ⟨i, hi, _⟩)
    · exact g
    · omega
theorem eh_02s {V S : Int32} {R Q : Nat → Int32} {n : Nat} (h : eh_0 R Q n S) (hx : eh_P V (Q n)) : eh_0 R Q (n + 1) (S ||| eh_bo (Q n)) := by
  intro p hp
  rw [b_or, Bool.or_eq_true, h p hp, eh_bob hx hp]
  constructor
  · rintro ((g | ⟨r, h1, h2⟩) | h1)
    · exact Or.inl g
    · exact Or.inr ⟨r, by omega, h2⟩
    · exact Or.inr ⟨n, by omega, h1⟩
  · rintro (g | ⟨r, h1, h2⟩)
    · exact Or.inl (Or.inl g)
    · rcases Nat.lt_or_ge r n with h3 | h3
      · exact Or.inl (Or.inr ⟨r, h3, h2⟩)
      · have e : r = n := by omega
        subst e; exact Or.inr h2
theorem eh_Qp {m : Nat} {V W : Int32} {K A B R Q : Nat → Int32} (h : eh_X m V W K A B R Q) {i : Nat} (hi : i < m) : eh_P V (Q i) := by
  obtain ⟨j, a, b, c⟩ := h.2.2.2.2.1 i hi
  exact Or.inr ⟨j, a, b, c⟩
end
section
/-! ===== X's private methods ===== -/
theorem xc_cp {V S x : Int32} {post : Int32 → Prop} (hx : eh_P V x) (ht : eh_hb S x = true → post 1) (hf : eh_hb S x = false → post 0) : wpX_contains post S x := by
  rcases hx with hx | ⟨j, hj, _, hx⟩
  · subst hx
    exact br_t (by decide) (hf (eh_hb_m S))
  · subst hx
    rw [eh_hb_n S (by omega)] at ht hf
    refine br_f (nI_pos (by omega)) ?_
    by_cases g : bt S j = true
    · exact br_t ((eh_t1 S (by omega)).mpr g) (ht g)
    · exact br_f (fun z => g ((eh_t1 S (by omega)).mp z)) (hf (by cases hb : bt S j <;> first | rfl | exact absurd hb g))
theorem xc_cn {S : Int32} {o : Nat} {post : Int32 → Prop} (ho : o < 32) (ht : bt S o = true → post 1) (hf : ¬ bt S o = true → post 0) : wpX_contains post S (nI o) := by
  refine br_f (nI_pos (by omega)) ?_
  by_cases g : bt S o = true
  · exact br_t ((eh_t1 S ho).mpr g) (ht g)
  · exact br_f (fun z => g ((eh_t1 S ho).mp z)) (hf g)
theorem xc_bitOf {x : Int32} {post : Int32 → Prop} (h : post (eh_bo x)) : wpX_bitOf post x := by
  unfold eh_bo at h
  by_cases e : x = -1
  · rw [if_pos e] at h; exact br_t e h
  · rw [if_neg e] at h; exact br_f e h
theorem xc_roq {m : Nat} {V W : Int32} {K A B R Q : Nat → Int32} {post : Int32 → Prop} (hX : eh_X m V W K A B R Q) (h : ∀ S, eh_0 R Q m S → post S) : wpX_rootedOrQueued post (nI m, V, W, K, A, B, R, Q) := by
  have hm := eh_X20 hX
  show ∃ n4 : Nat, wX_rootedOrQueued_4 post (nI m) V W K A B R Q n4 0 0
  refine loop_0 (fun n i s => wX_rootedOrQueued_4 post (nI m) V W K A B R Q n s (nI i)) (fun i s => eh_01 R i s) 4 0 (eh_01z R) (fun n s hs => ?_) (fun n i s hi hs hk => ?_)
  · refine br_t (show (4 : Int32) ≤ nI 4 by decide) ?_
    refine loop_0 (fun n i s => wX_rootedOrQueued_29 post (nI m) V W K A B R Q n s (nI i)) (fun i s => eh_0 R Q i s) m s (eh_02z hs) (fun n s hs => ?_) (fun n i s hi hs hk => ?_)
    · exact br_t (nI_le (Nat.le_refl _) (by omega)) (h s hs)
    · refine br_f (nI_ge hi (by omega)) ⟨vp_in_nI (by omega) (by omega), ?_⟩
      rw [nI_clamp (show i < 2 ^ 31 by omega)]
      refine xc_bitOf (fun y ey z ez => ?_)
      subst ey ez
      rw [nI_1]
      exact hk _ (eh_02s hs (eh_Qp hX hi))
  · refine br_f (nI_ge (b := 4) hi (by decide)) ⟨vp_in_nI hi (by decide), ?_⟩
    rw [nI_clamp (show i < 2 ^ 31 by omega)]
    refine xc_bitOf (fun y ey z ez => ?_)
    subst ey ez
    rw [nI_1]
    exact hk _ (eh_01s hs (hX.2.2.2.1 i hi))
theorem xc_kept {m o : Nat} {V W S : Int32} {K A B R Q : Nat → Int32} {post : Int32 → Prop} (hX : eh_X m V W K A B R Q) (hb : bt V o = true)
    (h : ∀ r, (∀ p, p < 32 → (bt r p = true ↔ eh_k K A B o S p)) → post r) : wpX_keptBy post (nI m, V, W, K, A, B, R, Q) (nI o) S := by
  obtain ⟨k1, k2, k3⟩ := hX.2.2.1 o hb
  have o20 := hX.1 o hb
  have hv : vp_in (nI o) 20 := vp_in_nI o20 (by decide)
  unfold wpX_keptBy
  dsimp only
  rw [nI_clamp (show o < 2 ^ 31 by omega)]
  refine ⟨hv, xc_bitOf ⟨hv, ?_⟩⟩
  by_cases e0 : K o = 0
  · refine br_t e0 ⟨hv, xc_bitOf (h _ (eh_kr0 k2 k3 e0 (fun p _ => ?_)))⟩
    rw [b_or, Bool.or_eq_true]
    exact Or.comm
  · refine br_f e0 ⟨hv, ?_⟩
    by_cases e2 : K o = 2
    · refine br_t e2 ⟨hv, xc_cp k2 (fun g => ?_) (fun g => ?_)⟩
      · exact br_f (by decide) (h _ (eh_kr1 k3 e0 (fun _ => g)))
      · exact br_t rfl (h _ (eh_kr2 e2 g))
    · exact br_f e2 (h _ (eh_kr1 k3 e0 (fun z => absurd z e2)))
theorem xc_grow {m : Nat} {V W S em : Int32} {K A B R Q : Nat → Int32} {post : Int32 → Prop} (hX : eh_X m V W K A B R Q) (hS : eh_sub S V)
    (h : ∀ L, eh_G K A B em S 20 L → post L) : wpX_grow post (nI m, V, W, K, A, B, R, Q) S em := by
  show ∃ n5 : Nat, wX_grow_5 post S em (nI m) V W K A B R Q n5 S 0
  refine loop_0 (fun n i s => wX_grow_5 post S em (nI m) V W K A B R Q n s (nI i)) (fun i s => eh_G K A B em S i s) 20 S (eh_G0 K A B em S) (fun n s hs => ?_) (fun n i s hi hs hk => ?_)
  · exact br_t (show (20 : Int32) ≤ nI 20 by decide) (h s hs)
  · refine br_f (nI_ge (b := 20) hi (by decide)) ?_
    by_cases e : nI i = em
    · refine br_t e (fun y ey => ?_)
      subst ey
      rw [nI_1]
      exact hk _ (eh_Gskip hs (Or.inl e))
    · refine br_f e (xc_cn (by omega) (fun g => ?_) (fun g => ?_))
      · refine br_f (by decide) (xc_kept hX (hS i g) (fun r hr y ey z ez => ?_))
        obtain ⟨_, k2, k3⟩ := hX.2.2.1 i (hS i g)
        subst ey ez
        rw [nI_1]
        exact hk _ (eh_Gadd2 hi hs (eh_sub_r S) hs.1 g e k2 k3 hr)
      · refine br_t rfl (fun y ey => ?_)
        subst ey
        rw [nI_1]
        exact hk _ (eh_Gskip hs (Or.inr g))
theorem xc_alive {m : Nat} {V W em : Int32} {K A B R Q : Nat → Int32} {post : Int32 → Prop} (hX : eh_X m V W K A B R Q)
    (h : ∀ S, eh_A K A B R Q m em S → post S) : wpX_findAlive post (nI m, V, W, K, A, B, R, Q) em := by
  unfold wpX_findAlive
  dsimp only
  refine xc_roq hX (fun S0 h0 => ?_)
  refine loop_0 (fun n i s => wX_findAlive_7 post em (nI m) V W K A B R Q n s (nI i)) (fun i s => eh_I K A B em S0 i s) 20 S0 (eh_I0 K A B em S0) (fun n s hs => ?_) (fun n i s hi hs hk => ?_)
  · exact br_t (show (20 : Int32) ≤ nI 20 by decide) (h s (eh_AI h0 hs))
  · refine br_f (nI_ge (b := 20) hi (by decide)) (xc_grow hX (hs.2.1 V (eh_XC hX em) (eh_X0 hX h0)) (fun L hL y ey => ?_))
    subst ey
    rw [nI_1]
    exact hk _ (eh_I1 hX.1 (eh_XC hX em) (eh_X0 hX h0) hs hL)
theorem xc_count {S : Int32} {post : Int32 → Prop} (h : post (nI (eh_cn (bt S) 20))) : wpX_count post S := by
  show ∃ n4 : Nat, wX_count_4 post S n4 0 0
  refine loop_0 (fun n i s => wX_count_4 post S n s (nI i)) (fun i s => s = nI (eh_cn (bt S) i)) 20 0 rfl (fun n s hs => ?_) (fun n i s hi hs hk => ?_)
  · exact br_t (show (20 : Int32) ≤ nI 20 by decide) (by rw [hs]; exact h)
  · refine br_f (nI_ge (b := 20) hi (by decide)) (fun y ey z ez => ?_)
    subst ey ez
    rw [nI_1]
    refine hk _ ?_
    show s + _ = nI (eh_cn (bt S) i + (if bt S i = true then 1 else 0))
    rw [hs, eh_val S (by omega), ← nI_add]
    by_cases g : bt S i = true
    · rw [if_pos g, if_pos g]; rfl
    · rw [if_neg g, if_neg g]; rfl
theorem xc_enq {m : Nat} {V W E : Int32} {K A B R Q : Nat → Int32} {D : Nat → Bool} {post : SX → Prop} (hD : ∀ o, o < 20 → bt E o = D o) (hq : ∀ o, o ≤ 20 → eh_qn D m o ≤ 20)
    (h : post (nI (eh_qn D m 20), V, W, K, A, B, R, eh_qf D m Q 20)) : wpX_enqueue post (nI m, V, W, K, A, B, R, Q) E := by
  show ∃ n2 : Nat, wX_enqueue_2 post E V W n2 0 (nI m) K A B R Q
  refine loop_0 (fun n i (_ : Unit) => wX_enqueue_2 post E V W n (nI i) (nI (eh_qn D m i)) K A B R (eh_qf D m Q i)) (fun _ _ => True) 20 () trivial (fun n s _ => ?_) (fun n i s hi _ hk => ?_)
  · exact br_t (show (20 : Int32) ≤ nI 20 by decide) h
  · have hk2 : wX_enqueue_2 post E V W n (nI (i + 1)) (nI (eh_qn D m (i + 1))) K A B R (eh_qf D m Q (i + 1)) := hk () trivial
    refine br_f (nI_ge (b := 20) hi (by decide)) (xc_cn (by omega) (fun g => ?_) (fun g => ?_))
    · rw [hD i hi] at g
      have h1 := hq (i + 1) (by omega)
      rw [eh_qnt g] at h1
      rw [eh_qnt g, eh_qft g] at hk2
      refine br_f (by decide) (br_f (nI_ge (b := 20) (by omega) (by decide)) ⟨vp_in_nI (by omega) (by decide), fun y ey z ez w ew => ?_⟩)
      subst ey ez ew
      rw [nI_1 i, nI_1 (eh_qn D m i), nI_clamp (by omega)]
      exact hk2
    · rw [hD i hi] at g
      rw [eh_qnf g, eh_qff g] at hk2
      refine br_t rfl (fun y ey => ?_)
      subst ey
      rw [nI_1]
      exact hk2
theorem xc_30 {n V W Nw V0 : Int32} {o : Nat} {K A B R Q : Nat → Int32} {post : SX → Prop} (ho : o < 20) (hA : eh_P V0 (A o))
    (h2 : K o = 2 → eh_hb Nw (A o) = false → post (n, V, W, K, upd A o (-1), upd B o (-1), R, Q)) (h1 : ¬ (K o = 2 ∧ eh_hb Nw (A o) = false) → post (n, V, W, K, A, B, R, Q)) :
    wX_clearFieldsOf_30 post (nI o) Nw n V W K A B R Q := by
  have hv : vp_in (nI o) 20 := vp_in_nI ho (by decide)
  unfold wX_clearFieldsOf_30
  rw [nI_clamp (show o < 2 ^ 31 by omega)]
  refine ⟨hv, ?_⟩
  by_cases e : K o = 2
  · refine br_t e ⟨hv, xc_cp hA (fun g => ?_) (fun g => ?_)⟩
    · exact br_f (by decide) (h1 (fun z => by rw [g] at z; exact absurd z.2 (by decide)))
    · refine br_t rfl ⟨hv, fun y ey => ⟨hv, fun z ez => ?_⟩⟩
      subst ey ez
      exact h2 e g
  · exact br_f e (h1 (fun z => e z.1))
theorem xc_cfo {n V W Bf Nw V0 : Int32} {o : Nat} {K A B R Q : Nat → Int32} {post : SX → Prop} (ho : o < 20) (hA : eh_P V0 (A o))
    (h : ∀ A' B' : Nat → Int32, A' o = eh_cA K A Bf Nw o → B' o = eh_cB K A B Nw o → (∀ j, j ≠ o → A' j = A j ∧ B' j = B j) → post (n, V, W, K, A', B', R, Q)) :
    wpX_clearFieldsOf post (n, V, W, K, A, B, R, Q) (nI o) Bf Nw := by
  have hv : vp_in (nI o) 20 := vp_in_nI ho (by decide)
  unfold wpX_clearFieldsOf
  dsimp only
  rw [nI_clamp (show o < 2 ^ 31 by omega)]
  refine ⟨hv, ?_⟩
  have two : K o = 1 → ¬ K o = 2 := fun e1 e2 => absurd (e1.symm.trans e2) (by decide)
  by_cases e : K o = 1
  · refine br_t e ⟨hv, xc_cp hA (fun g => ?_) (fun g => ?_)⟩
    · refine br_f (by decide) (xc_30 ho hA (fun e2 _ => absurd e2 (two e)) (fun _ => h A B ?_ ?_ (fun j _ => ⟨rfl, rfl⟩)))
      · unfold eh_cA
        rw [if_neg]
        rintro (z | z)
        · rw [g] at z; exact absurd z.2 (by decide)
        · exact two e z.1
      · unfold eh_cB
        rw [if_neg (fun z => two e z.1)]
    · refine br_t rfl ⟨hv, fun y ey => ?_⟩
      subst ey
      refine xc_30 (V0 := V0) ho (by rw [pk_us]; exact Or.inl rfl) (fun e2 _ => absurd e2 (two e)) (fun _ => h _ B ?_ ?_ (fun j hj => ⟨pk_un hj, rfl⟩))
      · unfold eh_cA
        rw [pk_us, if_pos (Or.inl ⟨e, g⟩)]
      · unfold eh_cB
        rw [if_neg (fun z => two e z.1)]
  · refine br_f e (xc_30 ho hA (fun e2 g => ?_) (fun g => ?_))
    · refine h _ _ ?_ ?_ (fun j hj => ⟨pk_un hj, pk_un hj⟩)
      · unfold eh_cA
        rw [pk_us, if_pos (Or.inr ⟨e2, g⟩)]
      · unfold eh_cB
        rw [pk_us, if_pos ⟨e2, g⟩]
    · refine h A B ?_ ?_ (fun j _ => ⟨rfl, rfl⟩)
      · unfold eh_cA
        rw [if_neg]
        rintro (z | z)
        · exact e z.1
        · exact g z
      · unfold eh_cB
        rw [if_neg g]
theorem xc_cf {n V W Bf Nw V0 : Int32} {K A B R Q : Nat → Int32} {post : SX → Prop} (hP : ∀ o, bt V o = true → eh_P V0 (A o)) (h20 : ∀ o, bt V o = true → o < 20)
    (h : ∀ A' B' : Nat → Int32, (∀ o, bt V o = true → A' o = eh_cA K A Bf Nw o) → (∀ o, bt V o = true → B' o = eh_cB K A B Nw o) → post (n, V, W, K, A', B', R, Q)) :
    wpX_clearFields post (n, V, W, K, A, B, R, Q) Bf Nw := by
  show ∃ n2 : Nat, wX_clearFields_2 post Bf Nw n2 0 n V W K A B R Q
  refine loop_0 (fun f i (s : (Nat → Int32) × (Nat → Int32)) => wX_clearFields_2 post Bf Nw f (nI i) n V W K s.1 s.2 R Q)
    (fun i s => ∀ j, (j < i → bt V j = true → s.1 j = eh_cA K A Bf Nw j ∧ s.2 j = eh_cB K A B Nw j) ∧ (i ≤ j → s.1 j = A j ∧ s.2 j = B j)) 20 (A, B)
    (fun j => ⟨fun z => absurd z (by omega), fun _ => ⟨rfl, rfl⟩⟩) (fun f s hs => ?_) (fun f i s hi hs hk => ?_)
  · refine br_t (show (20 : Int32) ≤ nI 20 by decide) (h s.1 s.2 (fun o ho => ?_) (fun o ho => ?_))
    · exact ((hs o).1 (h20 o ho) ho).1
    · exact ((hs o).1 (h20 o ho) ho).2
  · obtain ⟨sA, sB⟩ := s
    have ei : sA i = A i ∧ sB i = B i := (hs i).2 (Nat.le_refl _)
    refine br_f (nI_ge (b := 20) hi (by decide)) (xc_cn (by omega) (fun g => ?_) (fun g => ?_))
    · refine br_f (by decide) (xc_cfo (V0 := V0) hi (by show eh_P V0 (sA i); rw [ei.1]; exact hP i g) (fun A' B' ha hb hj y ey => ?_))
      subst ey
      rw [nI_1]
      refine hk (A', B') (fun j => ⟨fun z zb => ?_, fun z => ?_⟩)
      · show A' j = eh_cA K A Bf Nw j ∧ B' j = eh_cB K A B Nw j
        by_cases e : j = i
        · subst e
          rw [ha, hb]
          unfold eh_cA eh_cB
          show (if (K j = 1 ∧ eh_hb Bf (sA j) = false) ∨ (K j = 2 ∧ eh_hb Nw (sA j) = false) then -1 else sA j) = _ ∧ (if K j = 2 ∧ eh_hb Nw (sA j) = false then -1 else sB j) = _
          rw [ei.1, ei.2]
          exact ⟨rfl, rfl⟩
        · rw [(hj j e).1, (hj j e).2]
          exact (hs j).1 (by omega) zb
      · show A' j = A j ∧ B' j = B j
        rw [(hj j (by omega)).1, (hj j (by omega)).2]
        exact (hs j).2 (by omega)
    · refine br_t rfl (fun y ey => ?_)
      subst ey
      rw [nI_1]
      refine hk (sA, sB) (fun j => ⟨fun z zb => ?_, fun z => (hs j).2 (by omega)⟩)
      have : j ≠ i := fun e => g (by rw [← e]; exact zb)
      exact (hs j).1 (by omega) zb
end
section
/-! ===== Y's private methods ===== -/
theorem yc_bit {V x : Int32} {post : Int32 → Prop} (v : SY) (hx : eh_P V x) (h : post (eh_bo x)) : wpY_bit post v (x + 1) := by
  obtain ⟨v1, v2, v3, v4, v5, v6, v7, v8⟩ := v
  unfold wpY_bit
  dsimp only
  rcases hx with hx | ⟨j, hj, _, hx⟩
  · subst hx
    rw [eh_bo_m] at h
    exact br_t (by decide) h
  · subst hx
    rw [eh_bo_n (by omega)] at h
    rw [nI_1, nI_pred]
    exact br_f (nI_nle (by omega) (by omega)) h
theorem yc_bit0 {post : Int32 → Prop} (v : SY) (h : post 0) : wpY_bit post v 0 := by
  obtain ⟨v1, v2, v3, v4, v5, v6, v7, v8⟩ := v
  unfold wpY_bit
  dsimp only
  exact br_t (by decide) h
theorem yc_bitg {post : Int32 → Prop} (v : SY) (x : Int32) (h : ∀ r, post r) : wpY_bit post v x := by
  obtain ⟨v1, v2, v3, v4, v5, v6, v7, v8⟩ := v
  unfold wpY_bit
  dsimp only
  exact br_c (fun _ => h _) (fun _ => h _)
/-- Y's arrays beside X's, the fields of em emptied -/
def eh_F (V em : Int32) (K A B Ky as bs : Nat → Int32) : Prop :=
  ∀ o, bt V o = true → Ky o = K o ∧ (nI o ≠ em → as o = A o + 1 ∧ bs o = B o + 1) ∧ (nI o = em → as o = 0 ∧ bs o = 0)
theorem yc_pass {m : Nat} {V W S em x2 : Int32} {K A B R Q he Ky ey as bs Ry : Nat → Int32} {post : Int32 → Prop} {J : Int32 → Int32 → Prop} (hX : eh_X m V W K A B R Q) (hF : eh_F V em K A B Ky as bs) (hS : eh_sub S V)
    (h : ∀ L, eh_G K A B em S 20 L → ∀ y, y = x2 + 1 → J L y) : ∃ n65 : Nat, wY_living_65 post J x2 (nI m) he Ky ey as bs Ry Q n65 S 0 := by
  refine loop_0 (fun n i s => wY_living_65 post J x2 (nI m) he Ky ey as bs Ry Q n s (nI i)) (fun i s => eh_G K A B em S i s) 20 S (eh_G0 K A B em S) (fun n s hs => ?_) (fun n i s hi hs hk => ?_)
  · exact br_t (show (20 : Int32) ≤ nI 20 by decide) (h s hs)
  · have hv : vp_in (nI i) 20 := vp_in_nI hi (by decide)
    refine br_f (nI_ge (b := 20) hi (by decide)) ?_
    by_cases g : bt s i = true
    · refine br_t ((eh_t1 s (by omega)).mpr g) ⟨hv, ?_⟩
      have gV : bt V i = true := hs.2.1 V (eh_XC hX em) hS i g
      obtain ⟨k1, k2, k3⟩ := hX.2.2.1 i gV
      obtain ⟨f1, f2, f3⟩ := hF i gV
      rw [nI_clamp (show i < 2 ^ 31 by omega), f1]
      by_cases e : nI i = em
      · rw [(f3 e).1, (f3 e).2]
        have fin : ∀ y : Int32, y = s → ∀ z : Int32, z = nI i + 1 → wY_living_65 post J x2 (nI m) he Ky ey as bs Ry Q n y z := by
          intro y ey z ez
          subst ey ez
          rw [nI_1]
          exact hk _ (eh_Gskip hs (Or.inl e))
        have z0 : s ||| 0 = s := eh_or0 s
        have z1 : s ||| (0 ||| 0) = s := by rw [eh_or0 0, eh_or0 s]
        refine yc_bit0 _ ⟨hv, yc_bit0 _ ⟨hv, br_c (fun _ => ?_) (fun _ => ⟨hv, br_c (fun _ => ?_) (fun _ => br_c (fun _ => ?_) (fun _ => ?_))⟩)⟩⟩
        · intro a ea y ey z ez
          exact fin y (by rw [ey, ea]; exact z1) z ez
        · intro y ey z ez
          exact fin y (ey.trans z0) z ez
        · intro y ey z ez
          exact fin y (ey.trans z0) z ez
        · intro y ey z ez
          exact fin y (ey.trans z0) z ez
      · rw [(f2 e).1, (f2 e).2]
        have fin : ∀ r : Int32, (∀ p, p < 32 → (bt r p = true ↔ eh_k K A B i s p)) → ∀ y : Int32, y = s ||| r → ∀ z : Int32, z = nI i + 1 → wY_living_65 post J x2 (nI m) he Ky ey as bs Ry Q n y z := by
          intro r hr y ey z ez
          subst ey ez
          rw [nI_1]
          exact hk _ (eh_Gadd2 hi hs hs.1 (eh_sub_r s) g e k2 k3 hr)
        refine yc_bit _ k2 ⟨hv, yc_bit _ k3 ⟨hv, ?_⟩⟩
        by_cases e0 : K i = 0
        · refine br_t e0 (fun a ea y ey z ez => ?_)
          subst ea
          refine fin _ (eh_kr0 k2 k3 e0 (fun p _ => ?_)) y ey z ez
          rw [b_or, Bool.or_eq_true]
        · refine br_f e0 ⟨hv, ?_⟩
          by_cases e1 : K i = 1
          · refine br_t e1 (fun y ey z ez => ?_)
            exact fin _ (eh_kr1 k3 e0 (fun z2 => absurd (e1.symm.trans z2) (by decide))) y ey z ez
          · have e2 : K i = 2 := (k1.resolve_left e0).resolve_left e1
            refine br_f e1 ?_
            by_cases q : eh_hb s (A i) = false
            · refine br_t ((eh_az k2).mpr q) (fun y ey z ez => ?_)
              exact fin _ (eh_kr2 e2 q) y ey z ez
            · refine br_f (fun z => q ((eh_az k2).mp z)) (fun y ey z ez => ?_)
              refine fin _ (eh_kr1 k3 e0 (fun _ => ?_)) y ey z ez
              cases hb : eh_hb s (A i)
              · exact absurd hb q
              · rfl
    · refine br_f (fun z => g ((eh_t1 s (by omega)).mp z)) (fun y ey => ?_)
      subst ey
      rw [nI_1]
      exact hk _ (eh_Gskip hs (Or.inr (fun z => g (hs.1 i z))))
theorem yc_live {m : Nat} {V W em : Int32} {K A B R Q he Ky ey as bs Ry : Nat → Int32} {post : Int32 → Prop} (hX : eh_X m V W K A B R Q) (hF : eh_F V em K A B Ky as bs) (hR : ∀ r, r < 4 → Ry r = R r + 1)
    (h : ∀ S, eh_A K A B R Q m em S → post S) : wpY_living post (nI m, he, Ky, ey, as, bs, Ry, Q) := by
  have hm := eh_X20 hX
  show ∃ n4 : Nat, wY_living_4 post (nI m) he Ky ey as bs Ry Q n4 0 0
  refine loop_0 (fun n i s => wY_living_4 post (nI m) he Ky ey as bs Ry Q n s (nI i)) (fun i s => eh_01 R i s) 4 0 (eh_01z R) (fun n s hs => ?_) (fun n i s hi hs hk => ?_)
  · refine br_t (show (4 : Int32) ≤ nI 4 by decide) ?_
    refine loop_0 (fun n i s => wY_living_30 post (nI m) he Ky ey as bs Ry Q n s (nI i)) (fun i s => eh_0 R Q i s) m s (eh_02z hs) (fun n s hs => ?_) (fun n i s hi hs hk => ?_)
    · refine br_t (nI_le (Nat.le_refl _) (by omega)) ?_
      refine loop_0 (fun n i s => wY_living_57 post (nI m) he Ky ey as bs Ry Q n s (nI i)) (fun i t => eh_I K A B em s i t) 20 s (eh_I0 K A B em s) (fun n t ht => ?_) (fun n i t hi ht hk => ?_)
      · exact br_t (show (20 : Int32) ≤ nI 20 by decide) (h t (eh_AI hs ht))
      · refine br_f (nI_ge (b := 20) hi (by decide)) (yc_pass hX hF (ht.2.1 V (eh_XC hX em) (eh_X0 hX hs)) (fun L hL y ey => ?_))
        subst ey
        rw [nI_1]
        exact hk _ (eh_I1 hX.1 (eh_XC hX em) (eh_X0 hX hs) ht hL)
    · refine br_f (nI_ge hi (by omega)) ⟨vp_in_nI (by omega) (by omega), ?_⟩
      obtain ⟨j, hj, _, ej⟩ := hX.2.2.2.2.1 i hi
      rw [nI_clamp (show i < 2 ^ 31 by omega)]
      intro y ey z ez
      have e2 : y = s ||| eh_bo (Q i) := by rw [ey, ej, eh_bo_n (by omega)]
      subst e2 ez
      rw [nI_1]
      exact hk _ (eh_02s hs (eh_Qp hX hi))
  · refine br_f (nI_ge (b := 4) hi (by decide)) ⟨vp_in_nI hi (by decide), ?_⟩
    rw [nI_clamp (show i < 2 ^ 31 by omega), hR i hi]
    refine yc_bit _ (hX.2.2.2.1 i hi) (fun y ey z ez => ?_)
    subst ey ez
    rw [nI_1]
    exact hk _ (eh_01s hs (hX.2.2.2.1 i hi))
/-! ===== is the object there ===== -/
def eh_th (V x : Int32) : Prop := ∃ o, o < 20 ∧ bt V o = true ∧ x = nI o
theorem xc_ist {n V W x : Int32} {K A B R Q : Nat → Int32} {post : Int32 → Prop} (hx : eh_th V x) (h : post 1) : wpX_isThere post (n, V, W, K, A, B, R, Q) x := by
  obtain ⟨o, ho, hb, rfl⟩ := hx
  unfold wpX_isThere
  dsimp only
  exact br_f (nI_ge (b := 20) ho (by decide)) (xc_cn (by omega) (fun _ => br_f (by decide) h) (fun z => absurd hb z))
theorem xc_isf {n V W x : Int32} {K A B R Q : Nat → Int32} {post : Int32 → Prop} (hx : ¬ eh_th V x) (h : post 0) : wpX_isThere post (n, V, W, K, A, B, R, Q) x := by
  unfold wpX_isThere
  dsimp only
  rcases pk_ix x (n := 20) (by decide) with h1 | h1 | ⟨j, hj, rfl⟩
  · refine br_f (fun z => ?_) (br_t h1 (br_t rfl h))
    have z2 := Int32.lt_of_lt_of_le h1 (by decide : (0 : Int32) ≤ 20)
    exact Int32.not_le.mpr z2 z
  · exact br_t h1 h
  · refine br_f (nI_ge (b := 20) hj (by decide)) (xc_cn (by omega) (fun z => absurd ⟨j, hj, z, rfl⟩ hx) (fun _ => br_t rfl h))
theorem xc_itt {n V W x : Int32} {K A B R Q : Nat → Int32} {post : Int32 → Prop} (hx : x = -1 ∨ eh_th V x) (h : post 1) : wpX_isThereOrNone post (n, V, W, K, A, B, R, Q) x := by
  unfold wpX_isThereOrNone
  dsimp only
  by_cases e : x = -1
  · exact br_t e h
  · exact br_f e (xc_ist (hx.resolve_left e) (br_f (by decide) h))
theorem xc_itf {n V W x : Int32} {K A B R Q : Nat → Int32} {post : Int32 → Prop} (hx : ¬ (x = -1 ∨ eh_th V x)) (h : post 0) : wpX_isThereOrNone post (n, V, W, K, A, B, R, Q) x := by
  unfold wpX_isThereOrNone
  dsimp only
  exact br_f (fun e => hx (Or.inl e)) (xc_isf (fun e => hx (Or.inr e)) (br_t rfl h))
theorem yc_ist {w V x : Int32} {he Ky ey as bs Ry Q : Nat → Int32} {post : Int32 → Prop} (hh : ∀ o, o < 20 → he o = if bt V o = true then 1 else 0) (hx : eh_th V x) (h : post 1) : wpY_is post (w, he, Ky, ey, as, bs, Ry, Q) x := by
  obtain ⟨o, ho, hb, rfl⟩ := hx
  unfold wpY_is
  dsimp only
  rw [nI_clamp (show o < 2 ^ 31 by omega), hh o ho, if_pos hb]
  exact br_f (nI_pos (by omega)) (br_f (nI_ge (b := 20) ho (by decide)) ⟨vp_in_nI ho (by decide), br_f (by decide) h⟩)
theorem yc_isf {w V x : Int32} {he Ky ey as bs Ry Q : Nat → Int32} {post : Int32 → Prop} (hh : ∀ o, o < 20 → he o = if bt V o = true then 1 else 0) (hx : ¬ eh_th V x) (h : post 0) : wpY_is post (w, he, Ky, ey, as, bs, Ry, Q) x := by
  unfold wpY_is
  dsimp only
  rcases pk_ix x (n := 20) (by decide) with h1 | h1 | ⟨j, hj, rfl⟩
  · exact br_t h1 h
  · refine br_f (fun z => ?_) (br_t h1 h)
    have z2 := Int32.lt_of_lt_of_le z (by decide : (0 : Int32) ≤ 20)
    exact Int32.not_le.mpr z2 h1
  · have g : ¬ bt V j = true := fun z => hx ⟨j, hj, z, rfl⟩
    rw [nI_clamp (show j < 2 ^ 31 by omega), hh j hj, if_neg g]
    exact br_f (nI_pos (by omega)) (br_f (nI_ge (b := 20) hj (by decide)) ⟨vp_in_nI hj (by decide), br_t rfl h⟩)
/-! ===== is it a root ===== -/
theorem eh_rx (x : Int32) : x < 0 ∨ (¬ x < 0 ∧ 4 ≤ x ∧ 3 < x ∧ ¬ x ≤ 3) ∨ ∃ j : Nat, j < 4 ∧ x = nI j := by
  rcases pk_ix x (n := 4) (by decide) with h1 | h1 | h1
  · exact Or.inl h1
  · have h3 : (3 : Int32) < x := Int32.lt_of_lt_of_le (by decide) (show (4 : Int32) ≤ x from h1)
    refine Or.inr (Or.inl ⟨fun z => ?_, h1, h3, Int32.not_le.mpr h3⟩)
    exact Int32.not_le.mpr (Int32.lt_of_lt_of_le z (by decide : (0 : Int32) ≤ 4)) h1
  · exact Or.inr (Or.inr h1)
theorem eh_r3 : ∀ j, j < 4 → (¬ nI j < 0) ∧ (¬ (4 : Int32) ≤ nI j) ∧ (¬ (3 : Int32) < nI j) ∧ nI j ≤ 3 := by decide +kernel
theorem eh_k3 : ∀ j, j < 3 → (¬ nI j < 0) ∧ (¬ (2 : Int32) < nI j) ∧ (nI j = 0 ∨ nI j = 1 ∨ nI j = 2) := by decide +kernel
theorem eh_kx (x : Int32) : x < 0 ∨ (¬ x < 0 ∧ 2 < x) ∨ ∃ j : Nat, j < 3 ∧ x = nI j := by
  rcases pk_ix x (n := 3) (by decide) with h1 | h1 | h1
  · exact Or.inl h1
  · have h3 : (2 : Int32) < x := Int32.lt_of_lt_of_le (by decide) (show (3 : Int32) ≤ x from h1)
    refine Or.inr (Or.inl ⟨fun z => ?_, h3⟩)
    exact Int32.not_le.mpr (Int32.lt_of_lt_of_le z (by decide : (0 : Int32) ≤ 3)) h1
  · exact Or.inr (Or.inr h1)
end
section
/-! ===== the small methods ===== -/
theorem eh_nb1 : vp_nar .boolean 1 = 1 := by first | rfl | decide
theorem eh_nb0 : vp_nar .boolean 0 = 0 := by first | rfl | decide
theorem xc_init {post : SX → Prop} (h : ∀ R : Nat → Int32, (∀ r, r < 4 → R r = -1) → post (0, 0, 0, (fun _ => 0), (fun _ => 0), (fun _ => 0), R, (fun _ => 0))) : wpX_init post := by
  show ∃ n60 : Nat, wX_init_60 post 0 0 0 n60 0 (fun _ => 0) (fun _ => 0) (fun _ => 0) (fun _ => 0) (fun _ => 0)
  refine loop_0 (fun n i (s : Nat → Int32) => wX_init_60 post 0 0 0 n (nI i) (fun _ => 0) (fun _ => 0) (fun _ => 0) s (fun _ => 0)) (fun i s => ∀ r, r < i → s r = -1) 4 (fun _ => 0) (fun r z => absurd z (by omega)) (fun n s hs => ?_) (fun n i s hi hs hk => ?_)
  · exact br_t (show (4 : Int32) ≤ nI 4 by decide) (h s hs)
  · refine br_f (nI_ge (b := 4) hi (by decide)) ⟨vp_in_nI hi (by decide), fun y ey z ez => ?_⟩
    subst ey ez
    rw [nI_1, nI_clamp (by omega)]
    refine hk _ (fun r hr => ?_)
    by_cases e : r = i
    · rw [e, pk_us]
    · rw [pk_un e]; exact hs r (by omega)
theorem xc_lfn {n V W : Int32} {K A B R Q : Nat → Int32} {post : Int32 → Prop} (h1 : ∀ o, o < 20 → ¬ bt V o = true → (∀ j, j < o → bt V j = true) → post (nI o)) (h2 : (∀ j, j < 20 → bt V j = true) → post (-2)) :
    wpX_leastFreeNumber post (n, V, W, K, A, B, R, Q) := by
  show ∃ n2 : Nat, wX_leastFreeNumber_2 post n V W K A B R Q n2 0
  refine loop_0 (fun f i (_ : Unit) => wX_leastFreeNumber_2 post n V W K A B R Q f (nI i)) (fun i _ => ∀ j, j < i → bt V j = true) 20 () (fun r z => absurd z (by omega)) (fun f s hs => ?_) (fun f i s hi hs hk => ?_)
  · exact br_t (show (20 : Int32) ≤ nI 20 by decide) (h2 hs)
  · refine br_f (nI_ge (b := 20) hi (by decide)) (xc_cn (by omega) (fun g => br_f (by decide) (fun y ey => ?_)) (fun g => br_t rfl (h1 i hi g hs)))
    subst ey
    rw [nI_1]
    exact hk () (lt_s hs g)
theorem yc_mk {w V kd : Int32} {r : Nat} {he Ky ey as bs Ry Q : Nat → Int32} {post : Int32 → SY → Prop} (hr : r < 4) (hh : ∀ o, o < 20 → he o = if bt V o = true then 1 else 0)
    (h1 : ∀ o, o < 20 → ¬ bt V o = true → (∀ j, j < o → bt V j = true) → post (nI o) (w, upd he o 1, upd Ky o kd, upd ey o 0, upd as o 0, upd bs o 0, upd Ry r (nI o + 1), Q))
    (h2 : (∀ j, j < 20 → bt V j = true) → post (-2) (w, he, Ky, ey, as, bs, Ry, Q)) : ∃ n22 : Nat, wY_make_22 post kd (nI r) w he Ky ey as bs Ry Q n22 0 := by
  refine loop_0 (fun f i (_ : Unit) => wY_make_22 post kd (nI r) w he Ky ey as bs Ry Q f (nI i)) (fun i _ => ∀ j, j < i → bt V j = true) 20 () (fun r z => absurd z (by omega)) (fun f s hs => ?_) (fun f i s hi hs hk => ?_)
  · exact br_t (show (20 : Int32) ≤ nI 20 by decide) (h2 hs)
  · have hv : vp_in (nI i) 20 := vp_in_nI hi (by decide)
    refine br_f (nI_ge (b := 20) hi (by decide)) ⟨hv, ?_⟩
    rw [nI_clamp (show i < 2 ^ 31 by omega), hh i hi]
    by_cases g : bt V i = true
    · rw [if_pos g]
      refine br_f (by decide) (fun y ey => ?_)
      subst ey
      rw [nI_1]
      exact hk () (lt_s hs g)
    · rw [if_neg g]
      refine br_t rfl ⟨hv, fun a1 e1 => ⟨hv, fun a2 e2 => ⟨hv, fun a3 e3 => ⟨hv, fun a4 e4 => ⟨hv, fun a5 e5 => ⟨vp_in_nI hr (by decide), fun a6 e6 => ?_⟩⟩⟩⟩⟩⟩
      subst e1 e2 e3 e4 e5 e6
      rw [nI_clamp (show r < 2 ^ 31 by omega), eh_nb1, eh_nb0]
      exact h1 i hi g hs
theorem xc_rt {r : Nat} {post : Int32 → Prop} (hr : r < 4) (h : post 1) : wpX_isRoot post (nI r) := br_f (eh_r3 r hr).1 (br_f (eh_r3 r hr).2.1 h)
theorem xc_rl {x : Int32} {post : Int32 → Prop} (hx : x < 0) (h : post 0) : wpX_isRoot post x := br_t hx h
theorem xc_rh {x : Int32} {post : Int32 → Prop} (hx : ¬ x < 0) (h4 : 4 ≤ x) (h : post 0) : wpX_isRoot post x := br_f hx (br_t h4 h)
theorem xc_kt {r : Nat} {post : Int32 → Prop} (hr : r < 3) (h : post 1) : wpX_isKind post (nI r) := br_f (eh_k3 r hr).1 (br_f (eh_k3 r hr).2.1 h)
theorem xc_kl {x : Int32} {post : Int32 → Prop} (hx : x < 0) (h : post 0) : wpX_isKind post x := br_t hx h
theorem xc_kh {x : Int32} {post : Int32 → Prop} (hx : ¬ x < 0) (h4 : 2 < x) (h : post 0) : wpX_isKind post x := br_f hx (br_t h4 h)
/-- the queue moved up below m -/
def eh_sh (Q : Nat → Int32) (m : Nat) : Nat → Int32 := fun j => if j + 1 < m then Q (j + 1) else Q j
theorem eh_sh1 (Q : Nat → Int32) : eh_sh Q 1 = Q := by
  funext j
  exact if_neg (by omega)
theorem eh_shs (Q : Nat → Int32) (i : Nat) : upd (eh_sh Q (i + 1)) i (eh_sh Q (i + 1) (i + 1)) = eh_sh Q (i + 1 + 1) := by
  have e1 : eh_sh Q (i + 1) (i + 1) = Q (i + 1) := if_neg (by omega)
  funext j
  rw [e1]
  by_cases e : j = i
  · rw [e, pk_us]
    exact (if_pos (by omega)).symm
  · rw [pk_un e]
    unfold eh_sh
    by_cases h : j + 1 < i + 1
    · rw [if_pos h, if_pos (by omega)]
    · rw [if_neg h, if_neg (by omega)]
theorem xc_tk {m r : Nat} {V W : Int32} {K A B R Q : Nat → Int32} {post : Int32 → SX → Prop} (hm : m + 1 ≤ 20) (hr : r < 4) (h : post (Q 0) (nI m, V, W, K, A, B, upd R r (Q 0), eh_sh Q (m + 1))) :
    ∃ n25 : Nat, wX_take_25 post (nI r) (Q 0) (nI (m + 1)) V W n25 1 K A B R Q := by
  have key : ∃ n25 : Nat, wX_take_25 post (nI r) (Q 0) (nI (m + 1)) V W n25 (nI (0 + 1)) K A B R (eh_sh Q (0 + 1)) := by
    refine loop_0 (fun f i (_ : Unit) => wX_take_25 post (nI r) (Q 0) (nI (m + 1)) V W f (nI (i + 1)) K A B R (eh_sh Q (i + 1))) (fun _ _ => True) m () trivial (fun f s _ => ?_) (fun f i s hi _ hk => ?_)
    · refine br_t (nI_le (Nat.le_refl _) (by omega)) (fun y ey => ⟨vp_in_nI hr (by decide), fun z ez => ?_⟩)
      subst ey ez
      rw [nI_pred, nI_clamp (by omega)]
      exact h
    · refine br_f (nI_ge (by omega) (by omega)) ⟨vp_in_nI (by omega) (by decide), ?_⟩
      rw [nI_pred, nI_clamp (show i < 2 ^ 31 by omega), nI_clamp (show i + 1 < 2 ^ 31 by omega)]
      refine ⟨vp_in_nI (by omega) (by decide), fun y ey z ez => ?_⟩
      subst ey ez
      rw [nI_1, eh_shs]
      exact hk () trivial
  rw [eh_sh1] at key
  exact key
theorem yc_tk {m r : Nat} {he Ky ey as bs Ry Q : Nat → Int32} {post : Int32 → SY → Prop} (hm : m + 1 ≤ 20) (hr : r < 4) (h : post (Q 0) (nI m, he, Ky, ey, as, bs, upd Ry r (Q 0 + 1), eh_sh Q (m + 1))) :
    ∃ n37 : Nat, wY_take_37 post (nI r) (Q 0) (nI m) n37 0 he Ky ey as bs Ry Q := by
  have key : ∃ n37 : Nat, wY_take_37 post (nI r) (Q 0) (nI m) n37 (nI 0) he Ky ey as bs Ry (eh_sh Q (0 + 1)) := by
    refine loop_0 (fun f i (_ : Unit) => wY_take_37 post (nI r) (Q 0) (nI m) f (nI i) he Ky ey as bs Ry (eh_sh Q (i + 1))) (fun _ _ => True) m () trivial (fun f s _ => ?_) (fun f i s hi _ hk => ?_)
    · refine br_t (nI_le (Nat.le_refl _) (by omega)) ⟨vp_in_nI hr (by decide), fun z ez => ?_⟩
      subst ez
      rw [nI_clamp (by omega)]
      exact h
    · refine br_f (nI_ge hi (by omega)) ?_
      rw [nI_1, nI_clamp (show i < 2 ^ 31 by omega), nI_clamp (show i + 1 < 2 ^ 31 by omega)]
      refine ⟨vp_in_nI (by omega) (by decide), vp_in_nI (by omega) (by decide), fun y ey z ez => ?_⟩
      subst ey ez
      rw [eh_shs]
      exact hk () trivial
  rw [eh_sh1] at key
  exact key
theorem yc_obj {w V : Int32} {he Ky ey as bs Ry Q : Nat → Int32} {post : Int32 → Prop} (hh : ∀ o, o < 20 → he o = if bt V o = true then 1 else 0) (h : post (nI (eh_cn (bt V) 20))) : wpY_objects post (w, he, Ky, ey, as, bs, Ry, Q) := by
  show ∃ n4 : Nat, wY_objects_4 post w he Ky ey as bs Ry Q n4 0 0
  refine loop_0 (fun n i s => wY_objects_4 post w he Ky ey as bs Ry Q n s (nI i)) (fun i s => s = nI (eh_cn (bt V) i)) 20 0 rfl (fun n s hs => ?_) (fun n i s hi hs hk => ?_)
  · exact br_t (show (20 : Int32) ≤ nI 20 by decide) (by rw [hs]; exact h)
  · have hv : vp_in (nI i) 20 := vp_in_nI hi (by decide)
    refine br_f (nI_ge (b := 20) hi (by decide)) ⟨hv, ?_⟩
    rw [nI_clamp (show i < 2 ^ 31 by omega), hh i hi]
    by_cases g : bt V i = true
    · rw [if_pos g]
      refine br_f (by decide) (fun y ey z ez => ?_)
      subst ey ez
      rw [nI_1 i]
      refine hk _ ?_
      show s + 1 = nI (eh_cn (bt V) i + (if bt V i = true then 1 else 0))
      rw [hs, if_pos g, nI_1]
    · rw [if_neg g]
      refine br_t rfl (fun z ez => ?_)
      subst ez
      rw [nI_1 i]
      refine hk _ ?_
      show s = nI (eh_cn (bt V) i + (if bt V i = true then 1 else 0))
      rw [hs, if_neg g]
      rfl
/-- s has the members of T below i -/
def eh_U (T : Int32) (i : Nat) (s : Int32) : Prop := ∀ p, bt s p = true ↔ p < i ∧ bt T p = true
theorem eh_U0 (T : Int32) : eh_U T 0 0 := fun p => by
  rw [b_0]
  exact ⟨fun z => absurd z (by decide), fun z => absurd z.1 (by omega)⟩
theorem eh_Us {T s : Int32} {i : Nat} (h : eh_U T i s) (hi : i < 32) (g : bt T i = true) : eh_U T (i + 1) (s ||| ((1 : Int32) <<< (nI i &&& 31))) := by
  intro p
  rw [eh_bor hi, h p]
  constructor
  · rintro (⟨a, b⟩ | a)
    · exact ⟨by omega, b⟩
    · rw [a]; exact ⟨by omega, g⟩
  · rintro ⟨a, b⟩
    by_cases e : p = i
    · exact Or.inr e
    · exact Or.inl ⟨by omega, b⟩
theorem eh_Un {T s : Int32} {i : Nat} (h : eh_U T i s) (g : ¬ bt T i = true) : eh_U T (i + 1) s := by
  intro p
  rw [h p]
  constructor
  · rintro ⟨a, b⟩; exact ⟨by omega, b⟩
  · rintro ⟨a, b⟩
    have : p ≠ i := fun e => g (by rw [← e]; exact b)
    exact ⟨by omega, b⟩
theorem eh_Ue {T s : Int32} (h : eh_U T 20 s) (hT : ∀ i, bt T i = true → i < 20) : s = T :=
  eh_anti (fun i z => ((h i).mp z).2) (fun i z => (h i).mpr ⟨hT i z, z⟩)
theorem yc_there {w V : Int32} {he Ky ey as bs Ry Q : Nat → Int32} {post : Int32 → Prop} (hh : ∀ o, o < 20 → he o = if bt V o = true then 1 else 0) (hV : ∀ i, bt V i = true → i < 20) (h : post V) : wpY_there post (w, he, Ky, ey, as, bs, Ry, Q) := by
  show ∃ n4 : Nat, wY_there_4 post w he Ky ey as bs Ry Q n4 0 0
  refine loop_0 (fun n i s => wY_there_4 post w he Ky ey as bs Ry Q n s (nI i)) (fun i s => eh_U V i s) 20 0 (eh_U0 V) (fun n s hs => ?_) (fun n i s hi hs hk => ?_)
  · exact br_t (show (20 : Int32) ≤ nI 20 by decide) (by rw [eh_Ue hs hV]; exact h)
  · have hv : vp_in (nI i) 20 := vp_in_nI hi (by decide)
    refine br_f (nI_ge (b := 20) hi (by decide)) ⟨hv, ?_⟩
    rw [nI_clamp (show i < 2 ^ 31 by omega), hh i hi]
    by_cases g : bt V i = true
    · rw [if_pos g]
      refine br_f (by decide) (fun y ey z ez => ?_)
      subst ey ez
      rw [nI_1 i]
      exact hk _ (eh_Us hs (by omega) g)
    · rw [if_neg g]
      refine br_t rfl (fun z ez => ?_)
      subst ez
      rw [nI_1 i]
      exact hk _ (eh_Un hs g)
theorem yc_watched {w V W : Int32} {he Ky ey as bs Ry Q : Nat → Int32} {post : Int32 → Prop} (hh : ∀ o, o < 20 → he o = if bt V o = true then 1 else 0) (hV : ∀ i, bt V i = true → i < 20) (hW : eh_sub W V)
    (hE : ∀ o, bt V o = true → ey o = if bt W o = true then 1 else 0) (h : post W) : wpY_watched post (w, he, Ky, ey, as, bs, Ry, Q) := by
  show ∃ n4 : Nat, wY_watched_4 post w he Ky ey as bs Ry Q n4 0 0
  refine loop_0 (fun n i s => wY_watched_4 post w he Ky ey as bs Ry Q n s (nI i)) (fun i s => eh_U W i s) 20 0 (eh_U0 W) (fun n s hs => ?_) (fun n i s hi hs hk => ?_)
  · exact br_t (show (20 : Int32) ≤ nI 20 by decide) (by rw [eh_Ue hs (fun i z => hV i (hW i z))]; exact h)
  · have hv : vp_in (nI i) 20 := vp_in_nI hi (by decide)
    refine br_f (nI_ge (b := 20) hi (by decide)) ⟨hv, ?_⟩
    rw [nI_clamp (show i < 2 ^ 31 by omega), hh i hi]
    by_cases g : bt V i = true
    · rw [if_pos g, hE i g]
      refine br_f (by decide) ⟨hv, ?_⟩
      by_cases g2 : bt W i = true
      · rw [if_pos g2]
        refine br_f (by decide) (fun y ey z ez => ?_)
        subst ey ez
        rw [nI_1 i]
        exact hk _ (eh_Us hs (by omega) g2)
      · rw [if_neg g2]
        refine br_t rfl (fun z ez => ?_)
        subst ez
        rw [nI_1 i]
        exact hk _ (eh_Un hs g2)
    · rw [if_neg g]
      refine br_t rfl (fun z ez => ?_)
      subst ez
      rw [nI_1 i]
      exact hk _ (eh_Un hs (fun z => g (hW i z)))
end
section
/-! ===== cleaning, Y's side ===== -/
theorem eh_X2 {m : Nat} {V W Bf W2 : Int32} {K A B R Q : Nat → Int32} (h : eh_X m V W K A B R Q) (hB : eh_A K A B R Q m (-1) Bf) (hW : eh_sub W2 W) :
    eh_X (eh_qn (eh_D W Bf) m 20) V W2 K A B R (eh_qf (eh_D W Bf) m Q 20) := by
  obtain ⟨q1, q2, q3, q4⟩ := eh_Dq h hB 20 (Nat.le_refl _)
  obtain ⟨x1, x2, x3, x4, x5, x6⟩ := h
  refine ⟨x1, fun i g => x2 i (hW i g), x3, x4, fun i hi => ?_, q4⟩
  obtain ⟨j, h1, h2, h3⟩ := q3 i hi
  refine ⟨j, h1, ?_, h2⟩
  rcases h3 with h3 | h3
  · obtain ⟨j', g1, g2, g3⟩ := x5 i h3.1
    have e : j' = j := eh_inj (by omega) (by omega) (g3.symm.trans ((q2 i h3.1).symm.trans h2))
    rw [← e]; exact g2
  · have h4 := h3.2
    unfold eh_D at h4
    rw [Bool.and_eq_true] at h4
    exact x2 j h4.1
theorem yc_cl7 {m : Nat} {V W W' Bf : Int32} {K A B R Q he Ky ey as bs Ry : Nat → Int32} {post : Int32 → SY → Prop} (hX : eh_X m V W K A B R Q) (hh : ∀ o, o < 20 → he o = if bt V o = true then 1 else 0)
    (hE : ∀ o, bt V o = true → ey o = if bt W o = true then 1 else 0) (hB : eh_A K A B R Q m (-1) Bf) (hW' : ∀ i, i < 32 → (bt W' i = true ↔ bt W i = true ∧ bt Bf i = true))
    (h : ∀ e' : Nat → Int32, (∀ o, bt V o = true → e' o = if bt W' o = true then 1 else 0) →
      wpY_living (fun r_11 => (∃ n82 : Nat, wY_clean_82 post Bf r_11 (nI (eh_qn (eh_D W Bf) m 20)) n82 0 0 he Ky e' as bs Ry (eh_qf (eh_D W Bf) m Q 20))) (nI (eh_qn (eh_D W Bf) m 20), he, Ky, e', as, bs, Ry, eh_qf (eh_D W Bf) m Q 20)) :
    ∃ n7 : Nat, wY_clean_7 post Bf n7 0 (nI m) he Ky ey as bs Ry Q := by
  refine loop_0 (fun f i (s : Nat → Int32) => wY_clean_7 post Bf f (nI i) (nI (eh_qn (eh_D W Bf) m i)) he Ky s as bs Ry (eh_qf (eh_D W Bf) m Q i))
    (fun i s => ∀ o, bt V o = true → (o < i → s o = if bt W' o = true then 1 else 0) ∧ (i ≤ o → s o = if bt W o = true then 1 else 0)) 20 ey
    (fun o g => ⟨fun z => absurd z (by omega), fun _ => hE o g⟩) (fun f s hs => ?_) (fun f i s hi hs hk => ?_)
  · exact br_t (show (20 : Int32) ≤ nI 20 by decide) (h s (fun o g => (hs o g).1 (hX.1 o g)))
  · have hv : vp_in (nI i) 20 := vp_in_nI hi (by decide)
    have hk2 : ∀ s' : Nat → Int32, (∀ o, bt V o = true → (o < i + 1 → s' o = if bt W' o = true then 1 else 0) ∧ (i + 1 ≤ o → s' o = if bt W o = true then 1 else 0)) →
        wY_clean_7 post Bf f (nI (i + 1)) (nI (eh_qn (eh_D W Bf) m (i + 1))) he Ky s' as bs Ry (eh_qf (eh_D W Bf) m Q (i + 1)) := hk
    have skip : ¬ eh_D W Bf i = true → (bt V i = true → (bt W' i = true ↔ bt W i = true)) → ∀ y : Int32, y = nI i + 1 → wY_clean_7 post Bf f y (nI (eh_qn (eh_D W Bf) m i)) he Ky s as bs Ry (eh_qf (eh_D W Bf) m Q i) := by
      intro hD hw y ey
      subst ey
      rw [nI_1]
      have := hk2 s (fun o g => ⟨fun z => ?_, fun z => (hs o g).2 (by omega)⟩)
      · rw [eh_qnf hD, eh_qff hD] at this
        exact this
      · by_cases e : o = i
        · subst e
          rw [(hs o g).2 (Nat.le_refl _)]
          exact eh_if (hw g).symm
        · exact (hs o g).1 (by omega)
    refine br_f (nI_ge (b := 20) hi (by decide)) ⟨hv, ?_⟩
    rw [nI_clamp (show i < 2 ^ 31 by omega), hh i hi]
    by_cases gV : bt V i = true
    · rw [if_pos gV, (hs i gV).2 (Nat.le_refl _)]
      refine br_f (by decide) ⟨hv, ?_⟩
      by_cases gW : bt W i = true
      · rw [if_pos gW]
        refine br_f (by decide) ?_
        by_cases gB : bt Bf i = true
        · refine br_f (fun z => ?_) (skip (fun z => ?_) (fun _ => ?_))
          · rw [(eh_t0 Bf (by omega)).mp z] at gB; exact absurd gB (by decide)
          · unfold eh_D at z; rw [gB, gW] at z; exact absurd z (by decide)
          · rw [hW' i (by omega)]; exact ⟨fun z => z.1, fun z => ⟨z, gB⟩⟩
        · have gF : bt Bf i = false := by
            cases hb : bt Bf i
            · rfl
            · exact absurd hb gB
          have hD : eh_D W Bf i = true := by unfold eh_D; rw [gW, gF]; rfl
          have h20 := eh_qle (eh_Dq hX hB (i + 1) (by omega))
          rw [eh_qnt hD] at h20
          refine br_t ((eh_t0 Bf (by omega)).mpr gF) ⟨vp_in_nI (by omega) (by decide), fun y1 e1 y2 e2 => ⟨hv, fun y3 e3 y4 e4 => ?_⟩⟩
          have := hk2 y3 (fun o g => ⟨fun z => ?_, fun z => ?_⟩)
          · rw [eh_qnt hD, eh_qft hD] at this
            subst e1 e2 e4
            rw [nI_1 i, nI_1 (eh_qn (eh_D W Bf) m i), nI_clamp (by omega)]
            exact this
          · rw [e3, eh_nb0]
            by_cases e : o = i
            · subst e
              rw [pk_us, if_neg (fun z2 => gB ((hW' o (by omega)).mp z2).2)]
            · rw [pk_un e]; exact (hs o g).1 (by omega)
          · rw [e3, pk_un (by omega)]; exact (hs o g).2 (by omega)
      · rw [if_neg gW]
        refine br_t rfl (skip (fun z => ?_) (fun _ => ?_))
        · unfold eh_D at z; rw [Bool.and_eq_true] at z; exact gW z.1
        · rw [hW' i (by omega)]; exact ⟨fun z => z.1, fun z => absurd z gW⟩
    · rw [if_neg gV]
      refine br_t rfl (skip (fun z => ?_) (fun z => absurd z gV))
      unfold eh_D at z; rw [Bool.and_eq_true] at z; exact gV (hX.2.1 i z.1)
theorem yc_261 {post : Int32 → SY → Prop} {J : Int32 → Int32 → (Nat → Int32) → (Nat → Int32) → (Nat → Int32) → (Nat → Int32) → (Nat → Int32) → (Nat → Int32) → (Nat → Int32) → Prop} {Bf Nw g c w v : Int32} {i : Nat} {h k e a b r q : Nat → Int32} (hi : i < 20)
    (v1 : h i = 0 → v = 0) (v2 : ¬ h i = 0 → g = 0 → v = 1) (v3 : ¬ h i = 0 → ¬ g = 0 → v = 0) (H : J c (nI (i + 1)) (upd h i v) k e a b r q) : wY_clean_261 post J Bf Nw (nI i) g c w h k e a b r q := by
  have hv : vp_in (nI i) 20 := vp_in_nI hi (by decide)
  unfold wY_clean_261
  rw [nI_clamp (show i < 2 ^ 31 by omega), nI_1, eh_nb0, eh_nb1]
  refine ⟨hv, br_c (fun z => ⟨hv, fun y ey x ex => ?_⟩) (fun z => br_c (fun z2 => ⟨hv, fun y ey x ex => ?_⟩) (fun z2 => ⟨hv, fun y ey x ex => ?_⟩))⟩
  · subst ey ex
    rw [v1 z] at H; exact H
  · subst ey ex
    rw [v2 z z2] at H; exact H
  · subst ey ex
    rw [v3 z z2] at H; exact H
theorem yc_222 {post : Int32 → SY → Prop} {J : Int32 → Int32 → (Nat → Int32) → (Nat → Int32) → (Nat → Int32) → (Nat → Int32) → (Nat → Int32) → (Nat → Int32) → (Nat → Int32) → Prop} {Bf Nw V c w zb : Int32} {i : Nat} {h k e a b r q : Nat → Int32} (hi : i < 20)
    (hV : h i = if bt V i = true then 1 else 0)
    (H : J (if bt V i = true ∧ ¬ bt Nw i = true then c + 1 else c) (nI (i + 1)) (upd h i (if bt V i = true ∧ bt Nw i = true then 1 else 0)) k e a (upd b i zb) r q) :
    wY_clean_222 post J Bf Nw c (nI i) zb (nI i) w h k e a b r q := by
  have hv : vp_in (nI i) 20 := vp_in_nI hi (by decide)
  unfold wY_clean_222
  rw [nI_clamp (show i < 2 ^ 31 by omega)]
  refine ⟨hv, fun y ey => ⟨hv, ?_⟩⟩
  subst ey
  by_cases gV : bt V i = true
  · rw [if_pos gV] at hV
    have h1 : ¬ h i = 0 := by rw [hV]; decide
    refine br_f h1 ?_
    by_cases gN : bt Nw i = true
    · rw [if_neg (fun z => z.2 gN), if_pos ⟨gV, gN⟩] at H
      refine br_f (fun z => ?_) ?_
      · rw [(eh_t0 Nw (by omega)).mp z] at gN; exact absurd gN (by decide)
      · unfold wY_clean_246 wY_clean_247
        exact br_t rfl (yc_261 hi (fun z => absurd z h1) (fun _ _ => rfl) (fun _ z => absurd rfl z) H)
    · have gF : bt Nw i = false := by
        cases hb : bt Nw i
        · rfl
        · exact absurd hb gN
      rw [if_pos ⟨gV, gN⟩, if_neg (fun z => gN z.2)] at H
      refine br_t ((eh_t0 Nw (by omega)).mpr gF) ?_
      unfold wY_clean_247
      exact br_f (by decide) (yc_261 hi (fun z => absurd z h1) (fun _ z => absurd z (by decide)) (fun _ _ => rfl) H)
  · rw [if_neg gV] at hV
    rw [if_neg (fun z => gV z.1), if_neg (fun z => gV z.1)] at H
    refine br_t hV ?_
    unfold wY_clean_246 wY_clean_247
    exact br_t rfl (yc_261 hi (fun _ => rfl) (fun z => absurd hV z) (fun z => absurd hV z) H)
theorem yc_183 {post : Int32 → SY → Prop} {J : Int32 → Int32 → (Nat → Int32) → (Nat → Int32) → (Nat → Int32) → (Nat → Int32) → (Nat → Int32) → (Nat → Int32) → (Nat → Int32) → Prop} {Bf Nw c w za : Int32} {i : Nat} {h k e a b r q : Nat → Int32} (hi : i < 20)
    (H : wY_clean_222 post J Bf Nw c (nI i) (if k i = 2 ∧ za = 0 then 0 else b i) (nI i) w h k e (upd a i za) b r q) : wY_clean_183 post J Bf Nw c (nI i) za (nI i) w h k e a b r q := by
  have hv : vp_in (nI i) 20 := vp_in_nI hi (by decide)
  unfold wY_clean_183 wY_clean_215
  rw [nI_clamp (show i < 2 ^ 31 by omega)]
  refine ⟨hv, fun y ey => ⟨hv, ?_⟩⟩
  subst ey
  rw [pk_us]
  refine br_c (fun z => ⟨hv, br_c (fun z2 => ?_) (fun z2 => ⟨hv, ?_⟩)⟩) (fun z => ⟨hv, ?_⟩)
  · rw [if_pos ⟨z, z2⟩] at H; exact H
  · rw [if_neg (fun z3 => z2 z3.2)] at H; exact H
  · rw [if_neg (fun z3 => z z3.1)] at H; exact H
theorem yc_154 {post : Int32 → SY → Prop} {J : Int32 → Int32 → (Nat → Int32) → (Nat → Int32) → (Nat → Int32) → (Nat → Int32) → (Nat → Int32) → (Nat → Int32) → (Nat → Int32) → Prop} {Bf Nw c w x6 p : Int32} {i : Nat} {h k e a b r q : Nat → Int32} (hi : i < 20)
    (H : wY_clean_183 post J Bf Nw c (nI i) (if x6 = 0 ∧ p = 0 then a i else 0) (nI i) w h k e a b r q) : wY_clean_154 post J Bf Nw c (nI i) x6 p w h k e a b r q := by
  have hv : vp_in (nI i) 20 := vp_in_nI hi (by decide)
  unfold wY_clean_154 wY_clean_172
  rw [nI_clamp (show i < 2 ^ 31 by omega)]
  refine br_c (fun z => br_c (fun z2 => ⟨hv, ?_⟩) (fun z2 => ?_)) (fun z => ?_)
  · rw [if_pos ⟨z, z2⟩] at H; exact H
  · rw [if_neg (fun z3 => z2 z3.2)] at H; exact H
  · rw [if_neg (fun z3 => z z3.1)] at H; exact H
theorem yc_127 {post : Int32 → SY → Prop} {J : Int32 → Int32 → (Nat → Int32) → (Nat → Int32) → (Nat → Int32) → (Nat → Int32) → (Nat → Int32) → (Nat → Int32) → (Nat → Int32) → Prop} {Bf Nw c w x6 t : Int32} {i : Nat} {h k e a b r q : Nat → Int32} (hi : i < 20)
    (H : ∀ p : Int32, (p = 0 ↔ ¬ (k i = 2 ∧ ¬ (t &&& (Nw ^^^ (-1))) = 0)) → wY_clean_154 post J Bf Nw c (nI i) x6 p w h k e a b r q) : wY_clean_127 post J Bf Nw c (nI i) t x6 w h k e a b r q := by
  have hv : vp_in (nI i) 20 := vp_in_nI hi (by decide)
  unfold wY_clean_127 wY_clean_153
  rw [nI_clamp (show i < 2 ^ 31 by omega)]
  refine ⟨hv, br_c (fun z => br_c (fun z2 => ?_) (fun z2 => ?_)) (fun z => ?_)⟩
  · exact H 0 ⟨fun _ z3 => z3.2 z2, fun _ => rfl⟩
  · exact H 1 ⟨fun z3 => absurd z3 (by decide), fun z3 => absurd ⟨z, z2⟩ z3⟩
  · exact H 0 ⟨fun _ z3 => z z3.1, fun _ => rfl⟩
theorem yc_st {post : Int32 → SY → Prop} {J : Int32 → Int32 → (Nat → Int32) → (Nat → Int32) → (Nat → Int32) → (Nat → Int32) → (Nat → Int32) → (Nat → Int32) → (Nat → Int32) → Prop} {Bf Nw V c w t : Int32} {i : Nat} {h k e a b r q : Nat → Int32} (hi : i < 20)
    (hV : h i = if bt V i = true then 1 else 0)
    (H : ∀ x6 p : Int32, (x6 = 0 ↔ ¬ (k i = 1 ∧ ¬ (t &&& (Bf ^^^ (-1))) = 0)) → (p = 0 ↔ ¬ (k i = 2 ∧ ¬ (t &&& (Nw ^^^ (-1))) = 0)) →
      J (if bt V i = true ∧ ¬ bt Nw i = true then c + 1 else c) (nI (i + 1)) (upd h i (if bt V i = true ∧ bt Nw i = true then 1 else 0)) k e (upd a i (if x6 = 0 ∧ p = 0 then a i else 0))
        (upd b i (if k i = 2 ∧ (if x6 = 0 ∧ p = 0 then a i else 0) = 0 then 0 else b i)) r q) :
    ((k i = 1 → (((t &&& (Bf ^^^ (-1))) = 0 → wY_clean_126 post J Bf Nw c (nI i) t w h k e a b r q) ∧ (¬ (t &&& (Bf ^^^ (-1))) = 0 → wY_clean_127 post J Bf Nw c (nI i) t 1 w h k e a b r q)))
      ∧ (¬ k i = 1 → wY_clean_126 post J Bf Nw c (nI i) t w h k e a b r q)) := by
  have go : ∀ x6 : Int32, (x6 = 0 ↔ ¬ (k i = 1 ∧ ¬ (t &&& (Bf ^^^ (-1))) = 0)) → wY_clean_127 post J Bf Nw c (nI i) t x6 w h k e a b r q :=
    fun x6 h6 => yc_127 hi (fun p hp => yc_154 hi (yc_183 hi (yc_222 hi hV (H x6 p h6 hp))))
  unfold wY_clean_126
  refine br_c (fun z => br_c (fun z2 => ?_) (fun z2 => ?_)) (fun z => ?_)
  · exact go 0 ⟨fun _ z3 => z3.2 z2, fun _ => rfl⟩
  · exact go 1 ⟨fun z3 => absurd z3 (by decide), fun z3 => absurd ⟨z, z2⟩ z3⟩
  · exact go 0 ⟨fun _ z3 => z z3.1, fun _ => rfl⟩
theorem eh_za {V Bf Nw x6 p : Int32} {K A : Nat → Int32} {i : Nat} (hA : eh_P V (A i)) (h6 : x6 = 0 ↔ ¬ (K i = 1 ∧ ¬ (eh_bo (A i) &&& (Bf ^^^ (-1))) = 0)) (hp : p = 0 ↔ ¬ (K i = 2 ∧ ¬ (eh_bo (A i) &&& (Nw ^^^ (-1))) = 0)) :
    (if x6 = 0 ∧ p = 0 then A i + 1 else 0) = eh_cA K A Bf Nw i + 1 := by
  rw [eh_an hA] at h6 hp
  unfold eh_cA
  by_cases c : (K i = 1 ∧ eh_hb Bf (A i) = false) ∨ (K i = 2 ∧ eh_hb Nw (A i) = false)
  · rw [if_pos c]
    by_cases m : A i = -1
    · rw [m]
      by_cases d : x6 = 0 ∧ p = 0
      · rw [if_pos d]
      · rw [if_neg d]; decide
    · have hn : ¬ (x6 = 0 ∧ p = 0) := by
        rintro ⟨z1, z2⟩
        rcases c with ⟨c1, c2⟩ | ⟨c1, c2⟩
        · refine h6.mp z1 ⟨c1, fun z => ?_⟩
          rcases z with z | z
          · exact m z
          · rw [c2] at z; exact absurd z (by decide)
        · refine hp.mp z2 ⟨c1, fun z => ?_⟩
          rcases z with z | z
          · exact m z
          · rw [c2] at z; exact absurd z (by decide)
      rw [if_neg hn]; decide
  · have hn : x6 = 0 ∧ p = 0 := by
      refine ⟨h6.mpr (fun z => c (Or.inl ⟨z.1, ?_⟩)), hp.mpr (fun z => c (Or.inr ⟨z.1, ?_⟩))⟩
      · cases hb : eh_hb Bf (A i)
        · rfl
        · exact absurd (Or.inr hb) z.2
      · cases hb : eh_hb Nw (A i)
        · rfl
        · exact absurd (Or.inr hb) z.2
    rw [if_neg c, if_pos hn]
theorem eh_zb {V Bf Nw : Int32} {K A B : Nat → Int32} {i : Nat} (hA : eh_P V (A i)) : (if K i = 2 ∧ eh_cA K A Bf Nw i + 1 = 0 then 0 else B i + 1) = eh_cB K A B Nw i + 1 := by
  unfold eh_cB
  by_cases c : K i = 2 ∧ eh_hb Nw (A i) = false
  · have e : eh_cA K A Bf Nw i = -1 := if_pos (Or.inr c)
    rw [if_pos c, e, if_pos ⟨c.1, by decide⟩]; decide
  · have hn : ¬ (K i = 2 ∧ eh_cA K A Bf Nw i + 1 = 0) := by
      rintro ⟨z1, z2⟩
      have e : eh_cA K A Bf Nw i = A i := by
        refine if_neg ?_
        rintro (z | z)
        · exact absurd (z.1.symm.trans z1) (by decide)
        · exact c z
      rw [e] at z2
      rcases hA with m | ⟨j, hj, _, m⟩
      · exact c ⟨z1, by rw [m]; exact eh_hb_m Nw⟩
      · rw [m, nI_1] at z2
        exact nI_ne0 (by omega) (by omega) z2
    rw [if_neg c, if_neg hn]
theorem eh_zc {V Bf Nw k za b : Int32} {K A B : Nat → Int32} {i : Nat} (hA : eh_P V (A i)) (hk : k = K i) (ha : za = eh_cA K A Bf Nw i + 1) (hb : b = B i + 1) : (if k = 2 ∧ za = 0 then 0 else b) = eh_cB K A B Nw i + 1 := by
  subst hk ha hb
  exact eh_zb hA
theorem yc_82 {V V' Bf Nw w : Int32} {K A B he Ky e as bs Ry Q : Nat → Int32} {post : Int32 → SY → Prop} (hh : ∀ o, o < 20 → he o = if bt V o = true then 1 else 0)
    (hF : ∀ o, bt V o = true → Ky o = K o ∧ as o = A o + 1 ∧ bs o = B o + 1) (hP : ∀ o, bt V o = true → eh_P V (A o)) (hV' : ∀ i, i < 32 → (bt V' i = true ↔ bt V i = true ∧ bt Nw i = true)) (hV : ∀ i, bt V i = true → i < 20)
    (h : ∀ he' as' bs' : Nat → Int32, (∀ o, o < 20 → he' o = if bt V' o = true then 1 else 0) → (∀ o, bt V' o = true → as' o = eh_cA K A Bf Nw o + 1 ∧ bs' o = eh_cB K A B Nw o + 1) →
      post (nI (eh_cn (fun o => bt V o && !bt Nw o) 20)) (w, he', Ky, e, as', bs', Ry, Q)) :
    ∃ n82 : Nat, wY_clean_82 post Bf Nw w n82 0 0 he Ky e as bs Ry Q := by
  have key : ∃ n82 : Nat, wY_clean_82 post Bf Nw w n82 (nI (eh_cn (fun o => bt V o && !bt Nw o) 0)) (nI 0) he Ky e as bs Ry Q := by
    refine loop_0 (fun f i (s : (Nat → Int32) × (Nat → Int32) × (Nat → Int32)) => wY_clean_82 post Bf Nw w f (nI (eh_cn (fun o => bt V o && !bt Nw o) i)) (nI i) s.1 Ky e s.2.1 s.2.2 Ry Q)
      (fun i s => ∀ j, j < 20 → (j < i → s.1 j = (if bt V' j = true then 1 else 0) ∧ (bt V' j = true → s.2.1 j = eh_cA K A Bf Nw j + 1 ∧ s.2.2 j = eh_cB K A B Nw j + 1)) ∧
        (i ≤ j → s.1 j = he j ∧ s.2.1 j = as j ∧ s.2.2 j = bs j)) 20 (he, as, bs)
      (fun j _ => ⟨fun z => absurd z (by omega), fun _ => ⟨rfl, rfl, rfl⟩⟩) (fun f s hs => ?_) (fun f i s hi hs hk => ?_)
    · refine br_t (show (20 : Int32) ≤ nI 20 by decide) (h s.1 s.2.1 s.2.2 (fun o ho => ((hs o ho).1 ho).1) (fun o ho => ?_))
      have o20 : o < 20 := hV o ((hV' o (eh_lt ho)).mp ho).1
      exact ((hs o o20).1 o20).2 ho
    · obtain ⟨sh, sa, sb⟩ := s
      obtain ⟨q1, q2, q3⟩ := (hs i hi).2 (Nat.le_refl _)
      have hv : vp_in (nI i) 20 := vp_in_nI hi (by decide)
      have hVi : sh i = if bt V i = true then 1 else 0 := by
        show (sh, sa, sb).1 i = _
        rw [q1, hh i hi]
      have hc : (if bt V i = true ∧ ¬ bt Nw i = true then nI (eh_cn (fun o => bt V o && !bt Nw o) i) + 1 else nI (eh_cn (fun o => bt V o && !bt Nw o) i)) = nI (eh_cn (fun o => bt V o && !bt Nw o) (i + 1)) := by
        show _ = nI (eh_cn (fun o => bt V o && !bt Nw o) i + (if (bt V i && !bt Nw i) = true then 1 else 0))
        by_cases d : bt V i = true ∧ ¬ bt Nw i = true
        · have d2 : (bt V i && !bt Nw i) = true := by
            rw [d.1]
            cases hb : bt Nw i
            · rfl
            · exact absurd hb d.2
          rw [if_pos d, if_pos d2, nI_1]
        · have d2 : ¬ (bt V i && !bt Nw i) = true := by
            intro z
            rw [Bool.and_eq_true] at z
            refine d ⟨z.1, fun z3 => ?_⟩
            rw [z3] at z
            exact absurd z.2 (by decide)
          rw [if_neg d, if_neg d2, Nat.add_zero]
      have hh2 : (if bt V i = true ∧ bt Nw i = true then (1 : Int32) else 0) = if bt V' i = true then 1 else 0 := by
        by_cases d : bt V i = true ∧ bt Nw i = true
        · rw [if_pos d, if_pos ((hV' i (by omega)).mpr d)]
        · rw [if_neg d, if_neg (fun z => d ((hV' i (by omega)).mp z))]
      have fin : ∀ za zb : Int32, (bt V' i = true → za = eh_cA K A Bf Nw i + 1 ∧ zb = eh_cB K A B Nw i + 1) →
          wY_clean_82 post Bf Nw w f (if bt V i = true ∧ ¬ bt Nw i = true then nI (eh_cn (fun o => bt V o && !bt Nw o) i) + 1 else nI (eh_cn (fun o => bt V o && !bt Nw o) i)) (nI (i + 1))
            (upd sh i (if bt V i = true ∧ bt Nw i = true then 1 else 0)) Ky e (upd sa i za) (upd sb i zb) Ry Q := by
        intro za zb hz
        rw [hc, hh2]
        refine hk (upd sh i (if bt V' i = true then 1 else 0), upd sa i za, upd sb i zb) (fun j hj => ⟨fun z => ?_, fun z => ?_⟩)
        · show upd sh i (if bt V' i = true then 1 else 0) j = _ ∧ (_ → upd sa i za j = _ ∧ upd sb i zb j = _)
          by_cases d : j = i
          · subst d
            rw [pk_us, pk_us, pk_us]
            exact ⟨rfl, hz⟩
          · rw [pk_un d, pk_un d, pk_un d]
            exact (hs j hj).1 (by omega)
        · show upd sh i (if bt V' i = true then 1 else 0) j = _ ∧ upd sa i za j = _ ∧ upd sb i zb j = _
          rw [pk_un (by omega), pk_un (by omega), pk_un (by omega)]
          exact (hs j hj).2 (by omega)
      refine br_f (nI_ge (b := 20) hi (by decide)) ⟨hv, ?_⟩
      rw [nI_clamp (show i < 2 ^ 31 by omega)]
      by_cases g : bt V' i = true
      · have gV := ((hV' i (by omega)).mp g).1
        obtain ⟨f1, f2, f3⟩ := hF i gV
        have ea : sa i = A i + 1 := by
          show (sh, sa, sb).2.1 i = _
          rw [q2, f2]
        have eb : sb i = B i + 1 := by
          show (sh, sa, sb).2.2 i = _
          rw [q3, f3]
        show wpY_bit _ _ (sa i)
        rw [ea]
        refine yc_bit _ (hP i gV) ⟨hv, yc_st hi hVi (fun x6 p h6 hp => fin _ _ (fun _ => ?_))⟩
        rw [f1] at h6 hp
        have e1 : (if x6 = 0 ∧ p = 0 then sa i else 0) = eh_cA K A Bf Nw i + 1 := by
          rw [ea]
          exact eh_za (hP i gV) h6 hp
        exact ⟨e1, eh_zc (hP i gV) f1 e1 eb⟩
      · exact yc_bitg _ _ (fun t => ⟨hv, yc_st hi hVi (fun x6 p h6 hp => fin _ _ (fun z => absurd z g))⟩)
  exact key
end
section
/-! ===== what is owed ===== -/
def i_Rel (_ : Nat) (u : SX) (v : SY) : Prop :=
  ∃ (m : Nat) (V W : Int32) (K A B R Q he Ky ey as bs Ry : Nat → Int32), u = (nI m, V, W, K, A, B, R, Q) ∧ v = (nI m, he, Ky, ey, as, bs, Ry, Q) ∧ eh_Z m V W K A B R Q he Ky ey as bs Ry
theorem eh_rel {k m : Nat} {V W : Int32} {K A B R Q he Ky ey as bs Ry : Nat → Int32} (h : eh_Z m V W K A B R Q he Ky ey as bs Ry) : i_Rel k (nI m, V, W, K, A, B, R, Q) (nI m, he, Ky, ey, as, bs, Ry, Q) :=
  ⟨m, V, W, K, A, B, R, Q, he, Ky, ey, as, bs, Ry, rfl, rfl, h⟩
theorem i_up {k : Nat} {u : SX} {v : SY} (h : i_Rel k u v) : i_Rel (k + 4) u v := h
theorem i_vc0 : wpX_init (fun u => wpY_init (fun v => i_Rel 0 u v)) := by
  refine xc_init (fun R hR => ?_)
  exact eh_rel (k := 0) (eh_start hR)
theorem eh_FY {V W : Int32} {K A B R he Ky ey as bs Ry : Nat → Int32} (hV : ∀ i, bt V i = true → i < 20) (h : eh_Y V W K A B R he Ky ey as bs Ry) : eh_F V (-1) K A B Ky as bs := by
  intro o g
  obtain ⟨a, b, c, _⟩ := h.2.1 o g
  have := hV o g
  exact ⟨a, fun _ => ⟨b, c⟩, fun e => absurd e.symm (eh_m1 o (by omega))⟩
theorem i_vc_make {k : Nat} {u : SX} {v : SY} (I : i_Rel k u v) (hk : k + 4 ≤ 2048) (v1 : Int32) (v2 : Int32) : wpX_make (fun r u' => wpY_make (fun r' v' => r' = r ∧ i_Rel (k + 4) u' v') v v1 v2) u v1 v2 := by
  obtain ⟨m, V, W, K, A, B, R, Q, he, Ky, ey, as, bs, Ry, rfl, rfl, hZ⟩ := I
  have hY := hZ.2
  unfold wpX_make wpY_make
  dsimp only
  rcases eh_kx v1 with h1 | ⟨h1, h2⟩ | ⟨j, hj, rfl⟩
  · exact xc_kl h1 (br_t rfl (br_t h1 ⟨rfl, eh_rel hZ⟩))
  · exact xc_kh h1 h2 (br_t rfl (br_f h1 (br_t h2 ⟨rfl, eh_rel hZ⟩)))
  · obtain ⟨k1, k2, k3⟩ := eh_k3 j hj
    rcases eh_rx v2 with h1 | ⟨h1, h2, h3, h4⟩ | ⟨r, hr, rfl⟩
    · exact xc_kt hj (br_f (by decide) (xc_rl h1 (br_t rfl (br_f k1 (br_f k2 (br_t h1 ⟨rfl, eh_rel hZ⟩))))))
    · exact xc_kt hj (br_f (by decide) (xc_rh h1 h2 (br_t rfl (br_f k1 (br_f k2 (br_f h1 (br_f h4 ⟨rfl, eh_rel hZ⟩)))))))
    · obtain ⟨r1, r2, r3, r4⟩ := eh_r3 r hr
      refine xc_kt hj (br_f (by decide) (xc_rt hr (br_f (by decide) (xc_lfn (fun o ho hn hl => ?_) (fun hl => ?_)))))
      · have e2 : ¬ nI o = (-2 : Int32) := fun z => absurd (show nI o < 0 by rw [z]; decide) (nI_pos (by omega))
        refine br_f e2 (xc_bitOf (fun y1 e1 => ⟨vp_in_nI ho (by decide), fun y2 e2 => ⟨vp_in_nI ho (by decide), fun y3 e3 => ⟨vp_in_nI ho (by decide), fun y4 e4 => ⟨vp_in_nI hr (by decide), fun y5 e5 => ?_⟩⟩⟩⟩))
        rw [eh_bo_n (by omega)] at e1
        subst e1 e2 e3 e4 e5
        rw [nI_clamp (show o < 2 ^ 31 by omega), nI_clamp (show r < 2 ^ 31 by omega)]
        refine br_f k1 (br_f k2 (br_f r1 (br_t r4 (yc_mk hr hY.1 (fun o' ho' hn' hl' => ?_) (fun hl' => absurd (hl' o ho) hn)))))
        have e : o' = o := by
          rcases Nat.lt_trichotomy o' o with z | z | z
          · exact absurd (hl o' z) hn'
          · exact z
          · exact absurd (hl' o z) hn
        subst e
        exact ⟨rfl, eh_rel (eh_make hZ ho hn hr k3)⟩
      · refine br_t rfl (br_f k1 (br_f k2 (br_f r1 (br_t r4 (yc_mk hr hY.1 (fun o' ho' hn' hl' => absurd (hl o' ho') hn') (fun hl' => ⟨rfl, eh_rel hZ⟩))))))
theorem eh_thP {V x : Int32} (h : x = -1 ∨ eh_th V x) : eh_P V x := by
  rcases h with h | ⟨j, a, b, c⟩
  · exact Or.inl h
  · exact Or.inr ⟨j, a, b, c⟩
theorem i_vc_point {k : Nat} {u : SX} {v : SY} (I : i_Rel k u v) (hk : k + 4 ≤ 2048) (v1 : Int32) (v2 : Int32) (v3 : Int32) : wpX_point (fun r u' => wpY_point (fun r' v' => r' = r ∧ i_Rel (k + 4) u' v') v v1 v2 v3) u v1 v2 v3 := by
  obtain ⟨m, V, W, K, A, B, R, Q, he, Ky, ey, as, bs, Ry, rfl, rfl, hZ⟩ := I
  have hY := hZ.2
  unfold wpX_point wpY_point
  dsimp only
  by_cases t1 : eh_th V v1
  · have field : ∀ {c : Prop}, (v2 = 0 → c) → (v2 = 1 → c) → (¬ v2 = 0 → ¬ v2 = 1 → c) → c := fun a b c => by
      by_cases z : v2 = 0
      · exact a z
      · by_cases z1 : v2 = 1
        · exact b z1
        · exact c z z1
    by_cases t3 : v3 = -1 ∨ eh_th V v3
    · have hP := eh_thP t3
      have y17 : ∀ (post : Int32 → SY → Prop), wY_point_32 post v1 v2 v3 (nI m) he Ky ey as bs Ry Q → wY_point_17 post v1 v2 v3 (nI m) he Ky ey as bs Ry Q := by
        intro post h
        by_cases z : v3 = -1
        · exact br_t z h
        · exact br_f z (yc_ist hY.1 (t3.resolve_left z) (br_f (by decide) h))
      obtain ⟨o, ho, hb, rfl⟩ := t1
      have hv : vp_in (nI o) 20 := vp_in_nI ho (by decide)
      refine xc_ist ⟨o, ho, hb, rfl⟩ (br_f (by decide) (xc_itt t3 (br_f (by decide) ?_)))
      refine field (fun z => ?_) (fun z => ?_) (fun z z1 => ?_)
      · subst z
        refine br_t rfl (br_f (by decide) (br_t rfl ⟨hv, fun y e => ?_⟩))
        subst e
        refine yc_ist hY.1 ⟨o, ho, hb, rfl⟩ (br_f (by decide) (br_t rfl (y17 _ (br_t rfl ⟨hv, fun y e => br_f (by decide) ⟨hv, hv, fun y' e' => ?_⟩⟩))))
        subst e e'
        rw [nI_clamp (show o < 2 ^ 31 by omega), eh_updid]
        exact ⟨rfl, eh_rel (eh_pointA hZ hP)⟩
      · subst z
        refine br_f (by decide) (br_t rfl (br_f (by decide) (br_f (by decide) ⟨hv, fun y e => ?_⟩)))
        subst e
        refine yc_ist hY.1 ⟨o, ho, hb, rfl⟩ (br_f (by decide) (br_f (by decide) (br_t rfl (y17 _ (br_f (by decide) ⟨hv, hv, fun y e => br_t rfl ⟨hv, fun y' e' => ?_⟩⟩)))))
        subst e e'
        rw [nI_clamp (show o < 2 ^ 31 by omega), eh_updid]
        exact ⟨rfl, eh_rel (eh_pointB hZ hP)⟩
      · exact br_f z (br_f z1 (br_t rfl (yc_ist hY.1 ⟨o, ho, hb, rfl⟩ (br_f (by decide) (br_f z (br_f z1 ⟨rfl, eh_rel hZ⟩))))))
    · have y17 : ∀ (post : Int32 → SY → Prop), post 0 (nI m, he, Ky, ey, as, bs, Ry, Q) → wY_point_17 post v1 v2 v3 (nI m) he Ky ey as bs Ry Q := by
        intro post h
        exact br_f (fun z => t3 (Or.inl z)) (yc_isf hY.1 (fun z => t3 (Or.inr z)) (br_t rfl h))
      refine xc_ist t1 (br_f (by decide) (xc_itf t3 (br_t rfl (yc_ist hY.1 t1 (br_f (by decide) ?_)))))
      refine field (fun z => ?_) (fun z => ?_) (fun z z1 => ?_)
      · exact br_t z (y17 _ ⟨rfl, eh_rel hZ⟩)
      · exact br_f (fun z0 => absurd (z0.symm.trans z) (by decide)) (br_t z (y17 _ ⟨rfl, eh_rel hZ⟩))
      · exact br_f z (br_f z1 ⟨rfl, eh_rel hZ⟩)
  · exact xc_isf t1 (br_t rfl (yc_isf hY.1 t1 (br_t rfl ⟨rfl, eh_rel hZ⟩)))
theorem i_vc_root {k : Nat} {u : SX} {v : SY} (I : i_Rel k u v) (hk : k + 4 ≤ 2048) (v1 : Int32) (v2 : Int32) : wpX_root (fun r u' => wpY_root (fun r' v' => r' = r ∧ i_Rel (k + 4) u' v') v v1 v2) u v1 v2 := by
  obtain ⟨m, V, W, K, A, B, R, Q, he, Ky, ey, as, bs, Ry, rfl, rfl, hZ⟩ := I
  have hY := hZ.2
  unfold wpX_root wpY_root
  dsimp only
  rcases eh_rx v1 with h1 | ⟨h1, h2, h3, h4⟩ | ⟨r, hr, rfl⟩
  · exact xc_rl h1 (br_t rfl (br_t h1 ⟨rfl, eh_rel hZ⟩))
  · exact xc_rh h1 h2 (br_t rfl (br_f h1 (br_t h3 ⟨rfl, eh_rel hZ⟩)))
  · obtain ⟨r1, r2, r3, r4⟩ := eh_r3 r hr
    have hv : vp_in (nI r) 4 := vp_in_nI hr (by decide)
    by_cases t : v2 = -1 ∨ eh_th V v2
    · refine xc_rt hr (br_f (by decide) (xc_itt t (br_f (by decide) ⟨hv, fun y e => br_f r1 (br_f r3 ?_)⟩)))
      have fin : wY_root_24 (fun r' v' => r' = 1 ∧ i_Rel (k + 4) (nI m, V, W, K, A, B, y, Q) v') (nI r) v2 (nI m) he Ky ey as bs Ry Q := by
        refine ⟨hv, fun y' e' => ?_⟩
        subst e e'
        rw [nI_clamp (show r < 2 ^ 31 by omega)]
        exact ⟨rfl, eh_rel (eh_root hZ (eh_thP t))⟩
      by_cases z : v2 = -1
      · exact br_t z fin
      · exact br_f z (yc_ist hY.1 (t.resolve_left z) (br_f (by decide) fin))
    · refine xc_rt hr (br_f (by decide) (xc_itf t (br_t rfl (br_f r1 (br_f r3 (br_f (fun z => t (Or.inl z)) (yc_isf hY.1 (fun z => t (Or.inr z)) (br_t rfl ⟨rfl, eh_rel hZ⟩))))))))
theorem i_vc_watch {k : Nat} {u : SX} {v : SY} (I : i_Rel k u v) (hk : k + 4 ≤ 2048) (v1 : Int32) : wpX_watch (fun r u' => wpY_watch (fun r' v' => r' = r ∧ i_Rel (k + 4) u' v') v v1) u v1 := by
  obtain ⟨m, V, W, K, A, B, R, Q, he, Ky, ey, as, bs, Ry, rfl, rfl, hZ⟩ := I
  have hY := hZ.2
  unfold wpX_watch wpY_watch
  dsimp only
  by_cases t : eh_th V v1
  · obtain ⟨o, ho, hb, rfl⟩ := t
    refine xc_ist ⟨o, ho, hb, rfl⟩ (br_f (by decide) (xc_bitOf (fun y e => yc_ist hY.1 ⟨o, ho, hb, rfl⟩ (br_f (by decide) ⟨vp_in_nI ho (by decide), fun y' e' => ?_⟩))))
    rw [eh_bo_n (by omega)] at e
    subst e e'
    rw [nI_clamp (show o < 2 ^ 31 by omega), eh_nb1]
    exact ⟨rfl, eh_rel (eh_watch hZ hb)⟩
  · exact xc_isf t (br_t rfl (yc_isf hY.1 t (br_t rfl ⟨rfl, eh_rel hZ⟩)))
theorem i_vc_clean {k : Nat} {u : SX} {v : SY} (I : i_Rel k u v) (hk : k + 4 ≤ 2048) : wpX_clean (fun r u' => wpY_clean (fun r' v' => r' = r ∧ i_Rel (k + 4) u' v') v) u := by
  obtain ⟨m, V, W, K, A, B, R, Q, he, Ky, ey, as, bs, Ry, rfl, rfl, hX, hY⟩ := I
  have hFY := eh_FY hX.1 hY
  obtain ⟨y1, y2, y3⟩ := hY
  unfold wpX_clean wpY_clean
  dsimp only
  refine xc_alive hX (fun Bf hB E eE => ?_)
  have hD : ∀ o, o < 20 → bt E o = eh_D W Bf o := by
    intro o ho
    rw [eE, b_and, eh_not Bf (by omega)]
    rfl
  refine xc_enq hD (fun o ho => eh_qle (eh_Dq hX hB o ho)) (fun W' eW' => ?_)
  have hW' : ∀ i, i < 32 → (bt W' i = true ↔ bt W i = true ∧ bt Bf i = true) := by
    intro i hi
    rw [eW', b_and, eh_not E hi, eE, b_and, eh_not Bf hi]
    cases bt W i <;> cases bt Bf i <;> decide
  have hWW : eh_sub W' W := fun i g => ((hW' i (eh_lt g)).mp g).1
  have hX2 := eh_X2 hX hB hWW
  refine xc_alive hX2 (fun Nw hN G eG V' eV' => ?_)
  have hV' : ∀ i, i < 32 → (bt V' i = true ↔ bt V i = true ∧ bt Nw i = true) := by
    intro i hi
    rw [eV', b_and, Bool.and_eq_true]
  refine xc_cf (V0 := V) (fun o g => (hX.2.2.1 o ((hV' o (eh_lt g)).mp g).1).2.1) (fun o g => hX.1 o ((hV' o (eh_lt g)).mp g).1) (fun A' B' hA' hB' => ?_)
  refine xc_count ?_
  have hG : eh_cn (bt G) 20 = eh_cn (fun o => bt V o && !bt Nw o) 20 := by
    refine eh_cn_eq 20 (fun i hi => ?_)
    rw [eG, b_and, eh_not Nw (by omega)]
  rw [hG]
  obtain ⟨hX3, _⟩ := eh_clean hX hB hN hV' hW' hA' hB'
  refine yc_live hX hFY y3 (fun Bf2 hB2 => ?_)
  have eB := eh_Au hB2 hB
  subst eB
  refine yc_cl7 hX y1 (fun o g => (y2 o g).2.2.2) hB2 hW' (fun e' he' => ?_)
  refine yc_live hX2 hFY y3 (fun Nw2 hN2 => ?_)
  have eN := eh_Au hN2 hN
  subst eN
  refine yc_82 y1 (fun o g => ⟨(y2 o g).1, (y2 o g).2.1, (y2 o g).2.2.1⟩) (fun o g => (hX.2.2.1 o g).2.1) hV' hX.1 (fun he2 as2 bs2 a1 a2 => ⟨rfl, eh_rel ⟨hX3, a1, fun o g => ?_, y3⟩⟩)
  have gV := ((hV' o (eh_lt g)).mp g).1
  show Ky o = K o ∧ as2 o = A' o + 1 ∧ bs2 o = B' o + 1 ∧ e' o = if bt W' o = true then 1 else 0
  rw [hA' o g, hB' o g]
  exact ⟨(y2 o gV).1, (a2 o g).1, (a2 o g).2, he' o gV⟩
theorem i_vc_take {k : Nat} {u : SX} {v : SY} (I : i_Rel k u v) (hk : k + 4 ≤ 2048) (v1 : Int32) : wpX_take (fun r u' => wpY_take (fun r' v' => r' = r ∧ i_Rel (k + 4) u' v') v v1) u v1 := by
  obtain ⟨m, V, W, K, A, B, R, Q, he, Ky, ey, as, bs, Ry, rfl, rfl, hZ⟩ := I
  have hm := eh_X20 hZ.1
  unfold wpX_take wpY_take
  dsimp only
  rcases eh_rx v1 with h1 | ⟨h1, h2, h3, h4⟩ | ⟨r, hr, rfl⟩
  · exact xc_rl h1 (br_t rfl (br_t h1 ⟨rfl, eh_rel hZ⟩))
  · exact xc_rh h1 h2 (br_t rfl (br_f h1 (br_t h3 ⟨rfl, eh_rel hZ⟩)))
  · obtain ⟨r1, r2, r3, r4⟩ := eh_r3 r hr
    cases m with
    | zero => exact xc_rt hr (br_f (by decide) (br_t rfl (br_f r1 (br_f r3 (br_t rfl ⟨rfl, eh_rel hZ⟩)))))
    | succ m =>
      have hn : ¬ nI (m + 1) = 0 := nI_ne0 (by omega) (by omega)
      refine xc_rt hr (br_f (by decide) (br_f hn (fun y e => ?_)))
      subst e
      refine xc_tk hm hr (br_f r1 (br_f r3 (br_f hn (fun y e w ew => ?_))))
      subst e ew
      rw [nI_pred]
      refine yc_tk hm hr ⟨rfl, eh_rel (eh_take hZ (fun i hi => ?_))⟩
      exact if_pos (by omega)
theorem i_vc_objects {k : Nat} {u : SX} {v : SY} (I : i_Rel k u v) (hk : k + 4 ≤ 2048) : wpX_objects (fun r => wpY_objects (fun r' => r' = r ∧ i_Rel (k + 4) u v) v) u := by
  obtain ⟨m, V, W, K, A, B, R, Q, he, Ky, ey, as, bs, Ry, rfl, rfl, hZ⟩ := I
  unfold wpX_objects
  dsimp only
  exact xc_count (yc_obj hZ.2.1 ⟨rfl, eh_rel hZ⟩)
theorem i_vc_there {k : Nat} {u : SX} {v : SY} (I : i_Rel k u v) (hk : k + 4 ≤ 2048) : wpX_there (fun r => wpY_there (fun r' => r' = r ∧ i_Rel (k + 4) u v) v) u := by
  obtain ⟨m, V, W, K, A, B, R, Q, he, Ky, ey, as, bs, Ry, rfl, rfl, hZ⟩ := I
  unfold wpX_there
  dsimp only
  exact yc_there hZ.2.1 hZ.1.1 ⟨rfl, eh_rel hZ⟩
theorem i_vc_alive {k : Nat} {u : SX} {v : SY} (I : i_Rel k u v) (hk : k + 4 ≤ 2048) : wpX_alive (fun r => wpY_alive (fun r' => r' = r ∧ i_Rel (k + 4) u v) v) u := by
  obtain ⟨m, V, W, K, A, B, R, Q, he, Ky, ey, as, bs, Ry, rfl, rfl, hZ⟩ := I
  unfold wpX_alive wpY_alive
  dsimp only
  refine xc_alive hZ.1 (fun S hS => yc_live hZ.1 (eh_FY hZ.1.1 hZ.2) hZ.2.2.2 (fun T hT => ⟨eh_Au hT hS, eh_rel hZ⟩))
theorem eh_s1 {x a : Int32} (h : x = a + 1) : x - 1 = a := by
  rw [h, Int32.add_sub_cancel]
theorem i_vc_field {k : Nat} {u : SX} {v : SY} (I : i_Rel k u v) (hk : k + 4 ≤ 2048) (v1 : Int32) (v2 : Int32) : wpX_field (fun r => wpY_field (fun r' => r' = r ∧ i_Rel (k + 4) u v) v v1 v2) u v1 v2 := by
  obtain ⟨m, V, W, K, A, B, R, Q, he, Ky, ey, as, bs, Ry, rfl, rfl, hZ⟩ := I
  have hY := hZ.2
  unfold wpX_field wpY_field
  dsimp only
  by_cases t : eh_th V v1
  · obtain ⟨o, ho, hb, rfl⟩ := t
    have hv : vp_in (nI o) 20 := vp_in_nI ho (by decide)
    obtain ⟨_, f1, f2, _⟩ := hY.2.1 o hb
    refine xc_ist ⟨o, ho, hb, rfl⟩ (br_f (by decide) ?_)
    by_cases z : v2 = 0
    · subst z
      refine br_t rfl (br_f (by decide) (br_t rfl ⟨hv, yc_ist hY.1 ⟨o, ho, hb, rfl⟩ (br_f (by decide) (br_t rfl (br_t rfl ⟨hv, ?_⟩)))⟩))
      rw [nI_clamp (show o < 2 ^ 31 by omega)]
      exact ⟨eh_s1 f1, eh_rel hZ⟩
    · by_cases z1 : v2 = 1
      · refine br_f z (br_t z1 (br_f (by decide) (br_f z ⟨hv, yc_ist hY.1 ⟨o, ho, hb, rfl⟩ (br_f (by decide) (br_f z (br_t z1 (br_f z ⟨hv, ?_⟩))))⟩)))
        rw [nI_clamp (show o < 2 ^ 31 by omega)]
        exact ⟨eh_s1 f2, eh_rel hZ⟩
      · exact br_f z (br_f z1 (br_t rfl (yc_ist hY.1 ⟨o, ho, hb, rfl⟩ (br_f (by decide) (br_f z (br_f z1 ⟨rfl, eh_rel hZ⟩))))))
  · exact xc_isf t (br_t rfl (yc_isf hY.1 t (br_t rfl ⟨rfl, eh_rel hZ⟩)))
theorem i_vc_kind {k : Nat} {u : SX} {v : SY} (I : i_Rel k u v) (hk : k + 4 ≤ 2048) (v1 : Int32) : wpX_kind (fun r => wpY_kind (fun r' => r' = r ∧ i_Rel (k + 4) u v) v v1) u v1 := by
  obtain ⟨m, V, W, K, A, B, R, Q, he, Ky, ey, as, bs, Ry, rfl, rfl, hZ⟩ := I
  have hY := hZ.2
  unfold wpX_kind wpY_kind
  dsimp only
  by_cases t : eh_th V v1
  · obtain ⟨o, ho, hb, rfl⟩ := t
    have hv : vp_in (nI o) 20 := vp_in_nI ho (by decide)
    refine xc_ist ⟨o, ho, hb, rfl⟩ (br_f (by decide) ⟨hv, yc_ist hY.1 ⟨o, ho, hb, rfl⟩ (br_f (by decide) ⟨hv, ?_⟩)⟩)
    rw [nI_clamp (show o < 2 ^ 31 by omega)]
    exact ⟨(hY.2.1 o hb).1, eh_rel hZ⟩
  · exact xc_isf t (br_t rfl (yc_isf hY.1 t (br_t rfl ⟨rfl, eh_rel hZ⟩)))
theorem i_vc_rootOf {k : Nat} {u : SX} {v : SY} (I : i_Rel k u v) (hk : k + 4 ≤ 2048) (v1 : Int32) : wpX_rootOf (fun r => wpY_rootOf (fun r' => r' = r ∧ i_Rel (k + 4) u v) v v1) u v1 := by
  obtain ⟨m, V, W, K, A, B, R, Q, he, Ky, ey, as, bs, Ry, rfl, rfl, hZ⟩ := I
  unfold wpX_rootOf wpY_rootOf
  dsimp only
  rcases eh_rx v1 with h1 | ⟨h1, h2, h3, h4⟩ | ⟨r, hr, rfl⟩
  · exact xc_rl h1 (br_t rfl (br_t h1 ⟨rfl, eh_rel hZ⟩))
  · exact xc_rh h1 h2 (br_t rfl (br_f h1 (br_t h3 ⟨rfl, eh_rel hZ⟩)))
  · obtain ⟨r1, r2, r3, r4⟩ := eh_r3 r hr
    have hv : vp_in (nI r) 4 := vp_in_nI hr (by decide)
    refine xc_rt hr (br_f (by decide) ⟨hv, br_f r1 (br_f r3 ⟨hv, ?_⟩)⟩)
    rw [nI_clamp (show r < 2 ^ 31 by omega)]
    exact ⟨eh_s1 (hZ.2.2.2 r hr), eh_rel hZ⟩
theorem i_vc_queued {k : Nat} {u : SX} {v : SY} (I : i_Rel k u v) (hk : k + 4 ≤ 2048) : wpX_queued (fun r => wpY_queued (fun r' => r' = r ∧ i_Rel (k + 4) u v) v) u := by
  obtain ⟨m, V, W, K, A, B, R, Q, he, Ky, ey, as, bs, Ry, rfl, rfl, hZ⟩ := I
  unfold wpX_queued wpY_queued
  dsimp only
  exact ⟨rfl, eh_rel hZ⟩
theorem i_vc_watched {k : Nat} {u : SX} {v : SY} (I : i_Rel k u v) (hk : k + 4 ≤ 2048) : wpX_watched (fun r => wpY_watched (fun r' => r' = r ∧ i_Rel (k + 4) u v) v) u := by
  obtain ⟨m, V, W, K, A, B, R, Q, he, Ky, ey, as, bs, Ry, rfl, rfl, hZ⟩ := I
  unfold wpX_watched
  dsimp only
  exact yc_watched hZ.2.1 hZ.1.1 hZ.1.2.1 (fun o g => (hZ.2.2.1 o g).2.2.2) ⟨rfl, eh_rel hZ⟩
theorem eh_updud (f : Nat → Int32) (k : Nat) (x : Int32) : upd (upd f k x) k (f k) = f := by
  funext j
  by_cases e : j = k
  · rw [e, pk_us]
  · rw [pk_un e, pk_un e]
theorem i_vc_heldBy {k : Nat} {u : SX} {v : SY} (I : i_Rel k u v) (hk : k + 4 ≤ 2048) (v1 : Int32) : wpX_heldBy (fun r => wpY_heldBy (fun r' v' => r' = r ∧ i_Rel (k + 4) u v') v v1) u v1 := by
  obtain ⟨m, V, W, K, A, B, R, Q, he, Ky, ey, as, bs, Ry, rfl, rfl, hZ⟩ := I
  have hY := hZ.2
  have hFY := eh_FY hZ.1.1 hY
  unfold wpX_heldBy wpY_heldBy
  dsimp only
  by_cases t : eh_th V v1
  · obtain ⟨o, ho, hb, rfl⟩ := t
    have hv : vp_in (nI o) 20 := vp_in_nI ho (by decide)
    have hF2 : eh_F V (nI o) K A B Ky (upd as o 0) (upd bs o 0) := by
      intro i g
      obtain ⟨f1, f2, f3, _⟩ := hY.2.1 i g
      have := hZ.1.1 i g
      refine ⟨f1, fun z => ?_, fun z => ?_⟩
      · have : i ≠ o := fun e => z (by rw [e])
        rw [pk_un this, pk_un this]
        exact ⟨f2, f3⟩
      · have : i = o := eh_inj (by omega) (by omega) z
        subst this
        rw [pk_us, pk_us]
        exact ⟨rfl, rfl⟩
    refine xc_ist ⟨o, ho, hb, rfl⟩ (br_f (by decide) (xc_alive hZ.1 (fun S hS => xc_alive hZ.1 (fun T hT => ?_))))
    refine yc_ist hY.1 ⟨o, ho, hb, rfl⟩ (br_f (by decide) (yc_live hZ.1 hFY hY.2.2 (fun S2 hS2 => ⟨hv, fun y1 e1 => ⟨hv, fun y2 e2 => ⟨hv, fun y3 e3 => ⟨hv, fun y4 e4 => ?_⟩⟩⟩⟩)))
    rw [nI_clamp (show o < 2 ^ 31 by omega)] at e1 e2 e3 e4 ⊢
    subst e3 e4
    refine yc_live hZ.1 hF2 hY.2.2 (fun T2 hT2 y5 e5 => ⟨hv, fun y6 e6 => ⟨hv, fun y7 e7 => ?_⟩⟩)
    have eS := eh_Au hS2 hS
    have eT := eh_Au hT2 hT
    subst e1 e2
    rw [eh_updud] at e6 e7
    subst e6 e7
    rw [eS, eT] at e5
    exact ⟨e5, eh_rel hZ⟩
  · exact xc_isf t (br_t rfl (yc_isf hY.1 t (br_t rfl ⟨rfl, eh_rel hZ⟩)))
end
