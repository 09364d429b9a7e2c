/-! ===== the pieces of the two searches ===== -/
theorem eh_k20 {V S : Int32} {K A B : Nat → Int32} {o p : Nat} (hA : eh_P V (A o)) (hB : eh_P V (B o)) (hp : p < 32) (h : eh_k K A B o S p) : p < 20 := by
  have key : ∀ {x : Int32}, eh_P V x → x = nI p → p < 20 := by
    intro x hx e
    rcases hx with hx | ⟨j, h1, _, h3⟩
    · exact absurd (hx.symm.trans e) (eh_m1 p hp)
    · have : j = p := eh_inj (by omega) hp (h3.symm.trans e)
      omega
  rcases h with h | h
  · exact key hB h.1
  · exact key hA h.2
theorem eh_kr0 {V S r : Int32} {K A B : Nat → Int32} {o : Nat} (hA : eh_P V (A o)) (hB : eh_P V (B o)) (e : K o = 0)
    (hr : ∀ p, p < 32 → (bt r p = true ↔ bt (eh_bo (A o)) p = true ∨ bt (eh_bo (B o)) p = true)) : ∀ p, p < 32 → (bt r p = true ↔ eh_k K A B o S p) := by
  intro p hp
  rw [hr p hp, eh_bob hA hp, eh_bob hB hp]
  unfold eh_k
  constructor
  · rintro (h | h)
    · exact Or.inr ⟨e, h⟩
    · exact Or.inl ⟨h, fun e2 => absurd (e.symm.trans e2) (by decide)⟩
  · rintro (h | h)
    · exact Or.inr h.1
    · exact Or.inl h.2
theorem eh_kr1 {V S : Int32} {K A B : Nat → Int32} {o : Nat} (hB : eh_P V (B o)) (e : ¬ K o = 0) (e2 : K o = 2 → eh_hb S (A o) = true) : ∀ p, p < 32 → (bt (eh_bo (B o)) p = true ↔ eh_k K A B o S p) := by
  intro p hp
  rw [eh_bob hB hp]
  unfold eh_k
  constructor
  · intro h; exact Or.inl ⟨h, e2⟩
  · rintro (h | h)
    · exact h.1
    · exact absurd h.1 e
theorem eh_kr2 {S : Int32} {K A B : Nat → Int32} {o : Nat} (e : K o = 2) (e2 : eh_hb S (A o) = false) : ∀ p, p < 32 → (bt 0 p = true ↔ eh_k K A B o S p) := by
  intro p hp
  rw [b_0]
  unfold eh_k
  constructor
  · intro h; exact absurd h (by decide)
  · rintro (h | h)
    · have := h.2 e; rw [e2] at this; exact this
    · exact absurd (h.1.symm.trans e) (by decide)
theorem eh_or0 (S : Int32) : S ||| 0 = S := b_ext (fun i _ => by rw [b_or, b_0, Bool.or_false])
theorem eh_Gadd2 {K A B : Nat → Int32} {em S M L r V : Int32} {o : Nat} (ho : o < 20) (h : eh_G K A B em S o L) (hSM : eh_sub S M) (hML : eh_sub M L) (hb : bt M o = true) (he : nI o ≠ em)
    (hA : eh_P V (A o)) (hB : eh_P V (B o)) (hr : ∀ p, p < 32 → (bt r p = true ↔ eh_k K A B o M p)) : eh_G K A B em S (o + 1) (L ||| r) :=
  eh_Gadd ho h hSM hML hb he hr (fun p hp => eh_k20 hA hB (eh_lt hp) ((hr p (eh_lt hp)).mp hp))
/-- S has what the first n roots point to -/
def eh_01 (R : Nat → Int32) (n : Nat) (S : Int32) : Prop := ∀ p, p < 32 → (bt S p = true ↔ ∃ r, r < n ∧ R r = nI p)
theorem eh_01z (R : Nat → Int32) : eh_01 R 0 0 := by
  intro p _
  rw [b_0]
  exact ⟨fun h => absurd h (by decide), fun ⟨r, h, _⟩ => absurd h (by omega)⟩
theorem eh_01s {V S : Int32} {R : Nat → Int32} {n : Nat} (h : eh_01 R n S) (hx : eh_P V (R n)) : eh_01 R (n + 1) (S ||| eh_bo (R n)) := by
  intro p hp
  rw [b_or, Bool.or_eq_true, h p hp, eh_bob hx hp]
  constructor
  · rintro (⟨r, h1, h2⟩ | h1)
    · exact ⟨r, by omega, h2⟩
    · exact ⟨n, by omega, h1⟩
  · rintro ⟨r, h1, h2⟩
    rcases Nat.lt_or_ge r n with h3 | h3
    · exact Or.inl ⟨r, h3, h2⟩
    · have e : r = n := by omega
      subst e; exact Or.inr h2
theorem eh_02z {S : Int32} {R Q : Nat → Int32} (h : eh_01 R 4 S) : eh_0 R Q 0 S := by
  intro p hp
  rw [h p hp]
  constructor
  · intro g; exact Or.inl g
  · rintro (g | ⟨i, hi, _⟩)
    · exact g
    · omega
theorem eh_02s {V S : Int32} {R Q : Nat → Int32} {n : Nat} (h : eh_0 R Q n S) (hx : eh_P V (Q n)) : eh_0 R Q (n + 1) (S ||| eh_bo (Q n)) := by
  intro p hp
  rw [b_or, Bool.or_eq_true, h p hp, eh_bob hx hp]
  constructor
  · rintro ((g | ⟨r, h1, h2⟩) | h1)
    · exact Or.inl g
    · exact Or.inr ⟨r, by omega, h2⟩
    · exact Or.inr ⟨n, by omega, h1⟩
  · rintro (g | ⟨r, h1, h2⟩)
    · exact Or.inl (Or.inl g)
    · rcases Nat.lt_or_ge r n with h3 | h3
      · exact Or.inl (Or.inr ⟨r, h3, h2⟩)
      · have e : r = n := by omega
        subst e; exact Or.inr h2
theorem eh_Qp {m : Nat} {V W : Int32} {K A B R Q : Nat → Int32} (h : eh_X m V W K A B R Q) {i : Nat} (hi : i < m) : eh_P V (Q i) := by
  obtain ⟨j, a, b, c⟩ := h.2.2.2.2.1 i hi
  exact Or.inr ⟨j, a, b, c⟩
