/-! ===== the queue ===== -/
theorem eh_pig : ∀ (m n : Nat) (f : Nat → Nat), (∀ i, i < n → f i < m) → (∀ i j, i < n → j < n → f i = f j → i = j) → n ≤ m := by
  intro m
  induction m with
  | zero =>
    intro n f h _
    rcases Nat.eq_zero_or_pos n with e | e
    · omega
    · exact absurd (h 0 e) (by omega)
  | succ m ih =>
    intro n f h hi
    by_cases hx : ∃ i, i < n ∧ f i = m
    · obtain ⟨i0, h0, e0⟩ := hx
      have h5 : n - 1 ≤ m := by
        refine ih (n - 1) (fun i => if i = i0 then f (n - 1) else f i) (fun i hin => ?_) (fun i j hin hjn => ?_)
        · show (if i = i0 then f (n - 1) else f i) < m
          by_cases e : i = i0
          · rw [if_pos e]
            have h1 := h (n - 1) (by omega)
            have h2 : f (n - 1) ≠ m := fun e3 => by
              have := hi (n - 1) i0 (by omega) h0 (e3.trans e0.symm)
              omega
            omega
          · rw [if_neg e]
            have h1 := h i (by omega)
            have h2 : f i ≠ m := fun e3 => e (hi i i0 (by omega) h0 (e3.trans e0.symm))
            omega
        · show (if i = i0 then f (n - 1) else f i) = (if j = i0 then f (n - 1) else f j) → i = j
          by_cases ei : i = i0
          · by_cases ej : j = i0
            · intro _; omega
            · rw [if_pos ei, if_neg ej]
              intro e
              have := hi (n - 1) j (by omega) (by omega) e
              omega
          · by_cases ej : j = i0
            · rw [if_neg ei, if_pos ej]
              intro e
              have := hi i (n - 1) (by omega) (by omega) e
              omega
            · rw [if_neg ei, if_neg ej]
              intro e
              exact hi i j (by omega) (by omega) e
      omega
    · refine Nat.le_succ_of_le (ih n f (fun i hin => ?_) hi)
      have h1 := h i hin
      have h2 : f i ≠ m := fun e => hx ⟨i, hin, e⟩
      omega
def eh_qn (D : Nat → Bool) (n : Nat) : Nat → Nat
  | 0 => n
  | o + 1 => if D o = true then eh_qn D n o + 1 else eh_qn D n o
def eh_qf (D : Nat → Bool) (n : Nat) (Q : Nat → Int32) : Nat → Nat → Int32
  | 0 => Q
  | o + 1 => if D o = true then upd (eh_qf D n Q o) (eh_qn D n o) (nI o) else eh_qf D n Q o
theorem eh_qnt {D : Nat → Bool} {n o : Nat} (h : D o = true) : eh_qn D n (o + 1) = eh_qn D n o + 1 := if_pos h
theorem eh_qnf {D : Nat → Bool} {n o : Nat} (h : ¬ D o = true) : eh_qn D n (o + 1) = eh_qn D n o := if_neg h
theorem eh_qft {D : Nat → Bool} {n o : Nat} {Q : Nat → Int32} (h : D o = true) : eh_qf D n Q (o + 1) = upd (eh_qf D n Q o) (eh_qn D n o) (nI o) := if_pos h
theorem eh_qff {D : Nat → Bool} {n o : Nat} {Q : Nat → Int32} (h : ¬ D o = true) : eh_qf D n Q (o + 1) = eh_qf D n Q o := if_neg h
def eh_qI (D : Nat → Bool) (n : Nat) (Q : Nat → Int32) (o : Nat) : Prop :=
  n ≤ eh_qn D n o ∧ (∀ i, i < n → eh_qf D n Q o i = Q i) ∧
  (∀ i, i < eh_qn D n o → ∃ j, j < 20 ∧ eh_qf D n Q o i = nI j ∧ ((i < n ∧ D j = false) ∨ (j < o ∧ D j = true))) ∧
  (∀ i j, i < eh_qn D n o → j < eh_qn D n o → eh_qf D n Q o i = eh_qf D n Q o j → i = j)
theorem eh_qi {D : Nat → Bool} {n : Nat} {Q : Nat → Int32} (hQ : ∀ i, i < n → ∃ j, j < 20 ∧ Q i = nI j ∧ D j = false) (hi : ∀ i j, i < n → j < n → Q i = Q j → i = j) :
    ∀ o, o ≤ 20 → eh_qI D n Q o := by
  intro o
  induction o with
  | zero =>
    intro _
    refine ⟨Nat.le_refl _, fun i _ => rfl, fun i h => ?_, hi⟩
    obtain ⟨j, h1, h2, h3⟩ := hQ i h
    exact ⟨j, h1, h2, Or.inl ⟨h, h3⟩⟩
  | succ o ih =>
    intro ho
    obtain ⟨i1, i2, i3, i4⟩ := ih (by omega)
    by_cases hD : D o = true
    · unfold eh_qI
      rw [eh_qnt hD, eh_qft hD]
      refine ⟨by omega, fun i h => ?_, fun i h => ?_, ?_⟩
      · rw [pk_un (by omega)]; exact i2 i h
      · by_cases e : i = eh_qn D n o
        · rw [e, pk_us]
          exact ⟨o, by omega, rfl, Or.inr ⟨by omega, hD⟩⟩
        · rw [pk_un e]
          obtain ⟨j, h1, h2, h3⟩ := i3 i (by omega)
          refine ⟨j, h1, h2, ?_⟩
          rcases h3 with h3 | h3
          · exact Or.inl h3
          · exact Or.inr ⟨by omega, h3.2⟩
      · have key : ∀ i, i < eh_qn D n o → ¬ eh_qf D n Q o i = nI o := by
          intro i h e
          obtain ⟨j, h1, h2, h3⟩ := i3 i h
          have ej : j = o := eh_inj (by omega) (by omega) (h2.symm.trans e)
          subst ej
          rcases h3 with h3 | h3
          · rw [hD] at h3; exact absurd h3.2 (by decide)
          · omega
        intro i j h1 h2
        by_cases ei : i = eh_qn D n o
        · by_cases ej : j = eh_qn D n o
          · intro _; omega
          · rw [ei, pk_us, pk_un ej]
            intro e
            exact absurd e.symm (key j (by omega))
        · by_cases ej : j = eh_qn D n o
          · rw [ej, pk_us, pk_un ei]
            intro e
            exact absurd e (key i (by omega))
          · rw [pk_un ei, pk_un ej]
            exact i4 i j (by omega) (by omega)
    · unfold eh_qI
      rw [eh_qnf hD, eh_qff hD]
      refine ⟨i1, i2, fun i h => ?_, i4⟩
      obtain ⟨j, h1, h2, h3⟩ := i3 i h
      refine ⟨j, h1, h2, ?_⟩
      rcases h3 with h3 | h3
      · exact Or.inl h3
      · exact Or.inr ⟨by omega, h3.2⟩
theorem eh_q20 {n : Nat} {Q : Nat → Int32} (h : ∀ i, i < n → ∃ j, j < 20 ∧ Q i = nI j) (hi : ∀ i j, i < n → j < n → Q i = Q j → i = j) : n ≤ 20 := by
  refine eh_pig 20 n (fun i => (Q i).toNatClampNeg) (fun i hn => ?_) (fun i j h1 h2 e => ?_)
  · obtain ⟨j, hj, e⟩ := h i hn
    show (Q i).toNatClampNeg < 20
    rw [e, nI_clamp (by omega)]; exact hj
  · obtain ⟨a, ha, ea⟩ := h i h1
    obtain ⟨b, hb, eb⟩ := h j h2
    have e2 : (Q i).toNatClampNeg = (Q j).toNatClampNeg := e
    rw [ea, eb, nI_clamp (by omega), nI_clamp (by omega)] at e2
    exact hi i j h1 h2 (by rw [ea, eb, e2])
theorem eh_qle {D : Nat → Bool} {n : Nat} {Q : Nat → Int32} {o : Nat} (h : eh_qI D n Q o) : eh_qn D n o ≤ 20 :=
  eh_q20 (Q := eh_qf D n Q o) (fun i hi => by obtain ⟨j, h1, h2, _⟩ := h.2.2.1 i hi; exact ⟨j, h1, h2⟩) h.2.2.2
/-! ===== the state ===== -/
/-- X's own: m is the queue's length -/
def eh_X (m : Nat) (V W : Int32) (K A B R Q : Nat → Int32) : Prop :=
  (∀ i, bt V i = true → i < 20) ∧ eh_sub W V ∧
  (∀ o, bt V o = true → (K o = 0 ∨ K o = 1 ∨ K o = 2) ∧ eh_P V (A o) ∧ eh_P V (B o)) ∧
  (∀ r, r < 4 → eh_P V (R r)) ∧
  (∀ i, i < m → ∃ j, j < 20 ∧ bt V j = true ∧ Q i = nI j) ∧
  (∀ i j, i < m → j < m → Q i = Q j → i = j)
/-- Y's state beside it -/
def eh_Y (V W : Int32) (K A B R : Nat → Int32) (he Ky ey as bs Ry : Nat → Int32) : Prop :=
  (∀ o, o < 20 → he o = if bt V o = true then 1 else 0) ∧
  (∀ o, bt V o = true → Ky o = K o ∧ as o = A o + 1 ∧ bs o = B o + 1 ∧ ey o = if bt W o = true then 1 else 0) ∧
  (∀ r, r < 4 → Ry r = R r + 1)
theorem eh_X20 {m : Nat} {V W : Int32} {K A B R Q : Nat → Int32} (h : eh_X m V W K A B R Q) : m ≤ 20 :=
  eh_q20 (Q := Q) (fun i hi => by obtain ⟨j, h1, _, h2⟩ := h.2.2.2.2.1 i hi; exact ⟨j, h1, h2⟩) h.2.2.2.2.2
theorem eh_Pn {V x : Int32} {p : Nat} (h : eh_P V x) (hp : p < 32) (e : x = nI p) : bt V p = true := by
  rcases h with h | ⟨j, h1, h2, h3⟩
  · exact absurd (h.symm.trans e) (eh_m1 p hp)
  · have : j = p := eh_inj (by omega) hp (h3.symm.trans e)
    rw [← this]; exact h2
theorem eh_XC {m : Nat} {V W : Int32} {K A B R Q : Nat → Int32} (h : eh_X m V W K A B R Q) (em : Int32) : eh_C K A B em V := by
  intro o _ _ hb p hp hk
  obtain ⟨_, h2, h3⟩ := h.2.2.1 o hb
  rcases hk with hk | hk
  · exact eh_Pn h3 (by omega) hk.1
  · exact eh_Pn h2 (by omega) hk.2
theorem eh_X0 {m : Nat} {V W : Int32} {K A B R Q : Nat → Int32} (h : eh_X m V W K A B R Q) {S0 : Int32} (h0 : eh_0 R Q m S0) : eh_sub S0 V := by
  intro p hp
  have h32 := eh_lt hp
  rcases (h0 p h32).mp hp with ⟨r, hr, e⟩ | ⟨i, hi, e⟩
  · exact eh_Pn (h.2.2.2.1 r hr) h32 e
  · obtain ⟨j, hj, hb, e2⟩ := h.2.2.2.2.1 i hi
    have : j = p := eh_inj (by omega) h32 (e2.symm.trans e)
    rw [← this]; exact hb
theorem eh_XA {m : Nat} {V W : Int32} {K A B R Q : Nat → Int32} (h : eh_X m V W K A B R Q) {em S : Int32} (hA : eh_A K A B R Q m em S) : eh_sub S V := by
  obtain ⟨S0, a0, _, _, a3⟩ := hA
  exact a3 V (eh_XC h em) (eh_X0 h a0)
/-! ===== cleaning ===== -/
def eh_cA (K A : Nat → Int32) (Bf Nw : Int32) (o : Nat) : Int32 := if (K o = 1 ∧ eh_hb Bf (A o) = false) ∨ (K o = 2 ∧ eh_hb Nw (A o) = false) then -1 else A o
def eh_cB (K A B : Nat → Int32) (Nw : Int32) (o : Nat) : Int32 := if K o = 2 ∧ eh_hb Nw (A o) = false then -1 else B o
def eh_D (W Bf : Int32) (o : Nat) : Bool := bt W o && !bt Bf o
theorem eh_Dq {m : Nat} {V W Bf : Int32} {K A B R Q : Nat → Int32} (h : eh_X m V W K A B R Q) (hB : eh_A K A B R Q m (-1) Bf) : ∀ o, o ≤ 20 → eh_qI (eh_D W Bf) m Q o := by
  refine eh_qi (fun i hi => ?_) h.2.2.2.2.2
  obtain ⟨j, h1, h2, h3⟩ := h.2.2.2.2.1 i hi
  refine ⟨j, h1, h3, ?_⟩
  obtain ⟨S0, a0, a1, _, _⟩ := hB
  have : bt Bf j = true := a1 j ((a0 j (by omega)).mpr (Or.inr ⟨i, hi, h3⟩))
  unfold eh_D
  rw [this]
  exact Bool.and_false _
theorem eh_Pk {V T x : Int32} (h : eh_P V x) (g : ∀ j, j < 20 → x = nI j → bt T j = true) : eh_P T x := by
  rcases h with h | ⟨j, h1, _, h3⟩
  · exact Or.inl h
  · exact Or.inr ⟨j, h1, g j h1 h3, h3⟩
theorem eh_Ph {V T x : Int32} (h : eh_P V x) (g : ¬ eh_hb T x = false) : eh_P T x := by
  refine eh_Pk h (fun j hj e => ?_)
  rw [e, eh_hb_n T (by omega)] at g
  cases hb : bt T j
  · exact absurd hb g
  · rfl
/-- the state after a cleaning -/
theorem eh_clean {m : Nat} {V W Bf Nw V' W' : Int32} {K A B R Q A' B' : Nat → Int32} (h : eh_X m V W K A B R Q) (hB : eh_A K A B R Q m (-1) Bf)
    (hN : eh_A K A B R (eh_qf (eh_D W Bf) m Q 20) (eh_qn (eh_D W Bf) m 20) (-1) Nw)
    (hV' : ∀ i, i < 32 → (bt V' i = true ↔ bt V i = true ∧ bt Nw i = true)) (hW' : ∀ i, i < 32 → (bt W' i = true ↔ bt W i = true ∧ bt Bf i = true))
    (hA' : ∀ o, bt V' o = true → A' o = eh_cA K A Bf Nw o) (hB' : ∀ o, bt V' o = true → B' o = eh_cB K A B Nw o) :
    eh_X (eh_qn (eh_D W Bf) m 20) V' W' K A' B' R (eh_qf (eh_D W Bf) m Q 20) ∧ (∀ i, bt V' i = true ↔ bt Nw i = true) := by
  obtain ⟨q1, q2, q3, q4⟩ := eh_Dq h hB 20 (Nat.le_refl _)
  have hBV := eh_XA h hB
  obtain ⟨S0, a0, a1, a2, a3⟩ := hB
  obtain ⟨N0, b0, b1, b2, b3⟩ := hN
  obtain ⟨x1, x2, x3, x4, x5, x6⟩ := h
  have hq : ∀ i, i < eh_qn (eh_D W Bf) m 20 → ∃ j, j < 20 ∧ bt V j = true ∧ eh_qf (eh_D W Bf) m Q 20 i = nI j := by
    intro i hi
    obtain ⟨j, h1, h2, h3⟩ := q3 i hi
    refine ⟨j, h1, ?_, h2⟩
    rcases h3 with h3 | h3
    · obtain ⟨j', g1, g2, g3⟩ := x5 i h3.1
      have e : j' = j := eh_inj (by omega) (by omega) (g3.symm.trans ((q2 i h3.1).symm.trans h2))
      rw [← e]; exact g2
    · have h4 := h3.2
      unfold eh_D at h4
      rw [Bool.and_eq_true] at h4
      exact x2 j h4.1
  have hX2 : eh_X (eh_qn (eh_D W Bf) m 20) V W K A B R (eh_qf (eh_D W Bf) m Q 20) := ⟨x1, x2, x3, x4, hq, q4⟩
  have hNV : eh_sub Nw V := b3 V (eh_XC hX2 (-1)) (eh_X0 hX2 b0)
  have hBN : eh_sub Bf Nw := by
    refine a3 Nw b2 (fun p hp => b1 p ?_)
    have h32 := eh_lt hp
    refine (b0 p h32).mpr ?_
    rcases (a0 p h32).mp hp with h1 | ⟨i, hi, e⟩
    · exact Or.inl h1
    · exact Or.inr ⟨i, by omega, (q2 i hi).trans e⟩
  have hV2 : ∀ i, bt V' i = true ↔ bt Nw i = true := by
    intro i
    constructor
    · intro g; exact ((hV' i (eh_lt g)).mp g).2
    · intro g; exact (hV' i (eh_lt g)).mpr ⟨hNV i g, g⟩
  have hto : ∀ {x : Int32}, eh_P Nw x → eh_P V' x := fun g => eh_Pk g (fun j hj e => (hV2 j).mpr (eh_Pn g (by omega) e))
  refine ⟨⟨fun i g => x1 i ((hV' i (eh_lt g)).mp g).1, fun i g => ?_, fun o g => ?_, fun r hr => ?_, fun i hi => ?_, q4⟩, hV2⟩
  · exact (hV2 i).mpr (hBN i ((hW' i (eh_lt g)).mp g).2)
  · have gN := (hV2 o).mp g
    have gV := hNV o gN
    have o20 := x1 o gV
    obtain ⟨k1, k2, k3⟩ := x3 o gV
    have no1 : nI o ≠ (-1 : Int32) := fun e => eh_m1 o (by omega) e.symm
    have cl := b2 o o20 no1 gN
    rw [hA' o g, hB' o g]
    refine ⟨k1, hto ?_, hto ?_⟩
    · unfold eh_cA
      by_cases hc : (K o = 1 ∧ eh_hb Bf (A o) = false) ∨ (K o = 2 ∧ eh_hb Nw (A o) = false)
      · rw [if_pos hc]; exact Or.inl rfl
      · rw [if_neg hc]
        rcases k1 with e | e | e
        · exact eh_Pk k2 (fun j hj e2 => cl j hj (Or.inr ⟨e, e2⟩))
        · have g2 : ¬ eh_hb Bf (A o) = false := fun z => hc (Or.inl ⟨e, z⟩)
          have g3 := eh_Ph k2 g2
          exact eh_Pk g3 (fun j hj e2 => hBN j (eh_Pn g3 (by omega) e2))
        · exact eh_Ph k2 (fun z => hc (Or.inr ⟨e, z⟩))
    · unfold eh_cB
      by_cases hc : K o = 2 ∧ eh_hb Nw (A o) = false
      · rw [if_pos hc]; exact Or.inl rfl
      · rw [if_neg hc]
        refine eh_Pk k3 (fun j hj e2 => cl j hj (Or.inl ⟨e2, fun e => ?_⟩))
        cases hb : eh_hb Nw (A o)
        · exact absurd ⟨e, hb⟩ hc
        · rfl
  · refine eh_Pk (x4 r hr) (fun j hj e => (hV2 j).mpr (b1 j ((b0 j (by omega)).mpr (Or.inl ⟨r, hr, e⟩))))
  · obtain ⟨j, h1, _, h3⟩ := hq i hi
    exact ⟨j, h1, (hV2 j).mpr (b1 j ((b0 j (by omega)).mpr (Or.inr ⟨i, hi, h3⟩))), h3⟩
