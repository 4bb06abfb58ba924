/-! four in a line: by steps in a word, and by cells of the grid -/
def cf_F (P : Nat → Prop) (d : Nat) : Prop := ∃ i, P i ∧ P (i + d) ∧ P (i + 2 * d) ∧ P (i + 3 * d)
def cf_A (P : Nat → Prop) (x y : Int32) : Prop := ∃ a b : Nat, a < 7 ∧ b < 6 ∧ x = nI a ∧ y = nI b ∧ P (a * 7 + b)
def cf_L (P : Nat → Prop) (x y dx dy : Int32) : Prop := cf_A P x y ∧ cf_A P (x + dx) (y + dy) ∧ cf_A P (x + 2 * dx) (y + 2 * dy) ∧ cf_A P (x + 3 * dx) (y + 3 * dy)
def cf_K (P : Nat → Prop) (x y : Int32) : Prop := cf_L P x y 0 1 ∨ cf_L P x y 1 0 ∨ cf_L P x y 1 1 ∨ cf_L P x y 1 (-1)
/-- the word's own test -/
theorem cf_along (s : Int64) (d : Nat) (hd : 2 * d < 64) (z w : Int64)
    (hz : z = s &&& (s.toUInt64 >>> ((nI d).toInt64.toUInt64 &&& Int64.toUInt64 63)).toInt64)
    (hw : w = z &&& (z.toUInt64 >>> ((nI (2 * d)).toInt64.toUInt64 &&& Int64.toUInt64 63)).toInt64) :
    ¬ w = 0 ↔ cf_F (fun j => cf_b s j = true) d := by
  rw [cf_ne0]
  have hb : ∀ j, cf_b z j = (cf_b s j && cf_b s (d + j)) := by
    intro j
    rw [hz, cf_and, cf_shr s (show d < 64 by omega)]
  have hc : ∀ j, cf_b w j = ((cf_b s j && cf_b s (d + j)) && (cf_b s (2 * d + j) && cf_b s (d + (2 * d + j)))) := by
    intro j
    rw [hw, cf_and, cf_shr z hd, hb, hb]
  constructor
  · intro ⟨j, hj⟩
    rw [hc, Bool.and_eq_true, Bool.and_eq_true, Bool.and_eq_true] at hj
    obtain ⟨⟨h0, h1⟩, h2, h3⟩ := hj
    refine ⟨j, h0, ?_, ?_, ?_⟩
    · show cf_b s (j + d) = true
      rw [Nat.add_comm]; exact h1
    · show cf_b s (j + 2 * d) = true
      rw [Nat.add_comm]; exact h2
    · show cf_b s (j + 3 * d) = true
      rw [show j + 3 * d = d + (2 * d + j) by omega]; exact h3
  · intro ⟨j, h0, h1, h2, h3⟩
    have h0' : cf_b s j = true := h0
    have h1' : cf_b s (d + j) = true := by rw [Nat.add_comm]; exact h1
    have h2' : cf_b s (2 * d + j) = true := by rw [Nat.add_comm]; exact h2
    have h3' : cf_b s (d + (2 * d + j)) = true := by rw [show d + (2 * d + j) = j + 3 * d by omega]; exact h3
    refine ⟨j, ?_⟩
    rw [hc, h0', h1', h2', h3']
    rfl
/-! tables: a coordinate with its offset -/
theorem cf_t00 : ∀ c, c < 7 → ∀ a, a < 7 → (nI c = nI a ↔ a = c) := by decide +kernel
theorem cf_t10 : ∀ c, c < 7 → ∀ a, a < 7 → (nI c + 0 = nI a ↔ a = c) := by decide +kernel
theorem cf_t20 : ∀ c, c < 7 → ∀ a, a < 7 → (nI c + 2 * 0 = nI a ↔ a = c) := by decide +kernel
theorem cf_t30 : ∀ c, c < 7 → ∀ a, a < 7 → (nI c + 3 * 0 = nI a ↔ a = c) := by decide +kernel
theorem cf_t11 : ∀ c, c < 7 → ∀ a, a < 7 → (nI c + 1 = nI a ↔ a = c + 1) := by decide +kernel
theorem cf_t21 : ∀ c, c < 7 → ∀ a, a < 7 → (nI c + 2 * 1 = nI a ↔ a = c + 2) := by decide +kernel
theorem cf_t31 : ∀ c, c < 7 → ∀ a, a < 7 → (nI c + 3 * 1 = nI a ↔ a = c + 3) := by decide +kernel
theorem cf_t1n : ∀ c, c < 7 → ∀ a, a < 7 → (nI c + (-1) = nI a ↔ a + 1 = c) := by decide +kernel
theorem cf_t2n : ∀ c, c < 7 → ∀ a, a < 7 → (nI c + 2 * (-1) = nI a ↔ a + 2 = c) := by decide +kernel
theorem cf_t3n : ∀ c, c < 7 → ∀ a, a < 7 → (nI c + 3 * (-1) = nI a ↔ a + 3 = c) := by decide +kernel
/-- a cell at known coordinates -/
theorem cf_Ax {P : Nat → Prop} {x y : Int32} {c r : Nat} (hx : ∀ a, a < 7 → (x = nI a ↔ a = c)) (hy : ∀ b, b < 7 → (y = nI b ↔ b = r)) :
    cf_A P x y ↔ c < 7 ∧ r < 6 ∧ P (c * 7 + r) := by
  constructor
  · intro ⟨a, b, ha, hb, ex, ey, hp⟩
    have e1 := (hx a ha).mp ex
    have e2 := (hy b (by omega)).mp ey
    subst e1 e2
    exact ⟨ha, hb, hp⟩
  · intro ⟨h1, h2, hp⟩
    exact ⟨c, r, h1, h2, (hx c h1).mpr rfl, (hy r (by omega)).mpr rfl, hp⟩
theorem cf_An {P : Nat → Prop} {x y : Int32} {c r t : Nat} (hx : ∀ a, a < 7 → (x = nI a ↔ a = c)) (hy : ∀ b, b < 7 → (y = nI b ↔ b + t = r)) (hr : r < 6) :
    cf_A P x y ↔ c < 7 ∧ t ≤ r ∧ P (c * 7 + (r - t)) := by
  constructor
  · intro ⟨a, b, ha, hb, ex, ey, hp⟩
    have e1 := (hx a ha).mp ex
    have e2 := (hy b (by omega)).mp ey
    subst e1 e2
    rw [Nat.add_sub_cancel]
    exact ⟨ha, by omega, hp⟩
  · intro ⟨h1, h2, hp⟩
    exact ⟨c, r - t, h1, by omega, (hx c h1).mpr rfl, (hy (r - t) (by omega)).mpr (by omega), hp⟩
theorem cf_P {P : Nat → Prop} {a b : Nat} (h : P a) (e : a = b) : P b := e ▸ h
theorem cf_Lv {P : Nat → Prop} {c r : Nat} (hc : c < 7) (hr : r < 6) : cf_L P (nI c) (nI r) 0 1 ↔ r + 3 < 6 ∧ P (c * 7 + r) ∧ P (c * 7 + r + 1) ∧ P (c * 7 + r + 2) ∧ P (c * 7 + r + 3) := by
  unfold cf_L
  rw [cf_Ax (cf_t00 c hc) (cf_t00 r (by omega)), cf_Ax (cf_t10 c hc) (cf_t11 r (by omega)), cf_Ax (cf_t20 c hc) (cf_t21 r (by omega)), cf_Ax (cf_t30 c hc) (cf_t31 r (by omega))]
  constructor
  · intro ⟨⟨_, _, p0⟩, ⟨_, _, p1⟩, ⟨_, _, p2⟩, ⟨_, h, p3⟩⟩
    exact ⟨h, p0, cf_P p1 (by omega), cf_P p2 (by omega), cf_P p3 (by omega)⟩
  · intro ⟨h, p0, p1, p2, p3⟩
    exact ⟨⟨hc, hr, p0⟩, ⟨hc, by omega, cf_P p1 (by omega)⟩, ⟨hc, by omega, cf_P p2 (by omega)⟩, ⟨hc, h, cf_P p3 (by omega)⟩⟩
theorem cf_Lh {P : Nat → Prop} {c r : Nat} (hc : c < 7) (hr : r < 6) : cf_L P (nI c) (nI r) 1 0 ↔ c + 3 < 7 ∧ P (c * 7 + r) ∧ P (c * 7 + r + 7) ∧ P (c * 7 + r + 14) ∧ P (c * 7 + r + 21) := by
  unfold cf_L
  rw [cf_Ax (cf_t00 c hc) (cf_t00 r (by omega)), cf_Ax (cf_t11 c hc) (cf_t10 r (by omega)), cf_Ax (cf_t21 c hc) (cf_t20 r (by omega)), cf_Ax (cf_t31 c hc) (cf_t30 r (by omega))]
  constructor
  · intro ⟨⟨_, _, p0⟩, ⟨_, _, p1⟩, ⟨_, _, p2⟩, ⟨h, _, p3⟩⟩
    exact ⟨h, p0, cf_P p1 (by omega), cf_P p2 (by omega), cf_P p3 (by omega)⟩
  · intro ⟨h, p0, p1, p2, p3⟩
    exact ⟨⟨hc, hr, p0⟩, ⟨by omega, hr, cf_P p1 (by omega)⟩, ⟨by omega, hr, cf_P p2 (by omega)⟩, ⟨h, hr, cf_P p3 (by omega)⟩⟩
theorem cf_Lr {P : Nat → Prop} {c r : Nat} (hc : c < 7) (hr : r < 6) : cf_L P (nI c) (nI r) 1 1 ↔ c + 3 < 7 ∧ r + 3 < 6 ∧ P (c * 7 + r) ∧ P (c * 7 + r + 8) ∧ P (c * 7 + r + 16) ∧ P (c * 7 + r + 24) := by
  unfold cf_L
  rw [cf_Ax (cf_t00 c hc) (cf_t00 r (by omega)), cf_Ax (cf_t11 c hc) (cf_t11 r (by omega)), cf_Ax (cf_t21 c hc) (cf_t21 r (by omega)), cf_Ax (cf_t31 c hc) (cf_t31 r (by omega))]
  constructor
  · intro ⟨⟨_, _, p0⟩, ⟨_, _, p1⟩, ⟨_, _, p2⟩, ⟨h, g, p3⟩⟩
    exact ⟨h, g, p0, cf_P p1 (by omega), cf_P p2 (by omega), cf_P p3 (by omega)⟩
  · intro ⟨h, g, p0, p1, p2, p3⟩
    exact ⟨⟨hc, hr, p0⟩, ⟨by omega, by omega, cf_P p1 (by omega)⟩, ⟨by omega, by omega, cf_P p2 (by omega)⟩, ⟨h, g, cf_P p3 (by omega)⟩⟩
theorem cf_Lf {P : Nat → Prop} {c r : Nat} (hc : c < 7) (hr : r < 6) : cf_L P (nI c) (nI r) 1 (-1) ↔ c + 3 < 7 ∧ 3 ≤ r ∧ P (c * 7 + r) ∧ P (c * 7 + r + 6) ∧ P (c * 7 + r + 12) ∧ P (c * 7 + r + 18) := by
  unfold cf_L
  rw [cf_Ax (cf_t00 c hc) (cf_t00 r (by omega)), cf_An (cf_t11 c hc) (cf_t1n r (by omega)) hr, cf_An (cf_t21 c hc) (cf_t2n r (by omega)) hr, cf_An (cf_t31 c hc) (cf_t3n r (by omega)) hr]
  constructor
  · intro ⟨⟨_, _, p0⟩, ⟨_, _, p1⟩, ⟨_, _, p2⟩, ⟨h, g, p3⟩⟩
    exact ⟨h, g, p0, cf_P p1 (by omega), cf_P p2 (by omega), cf_P p3 (by omega)⟩
  · intro ⟨h, g, p0, p1, p2, p3⟩
    exact ⟨⟨hc, hr, p0⟩, ⟨by omega, by omega, cf_P p1 (by omega)⟩, ⟨by omega, by omega, cf_P p2 (by omega)⟩, ⟨h, g, cf_P p3 (by omega)⟩⟩
/-- the two tests agree where every stone lies on the grid -/
theorem cf_i6 {i : Nat} (h : i % 7 < 6) (h49 : i < 49) : i / 7 * 6 + i % 7 < 42 ∧ (i / 7 * 6 + i % 7) / 6 = i / 7 ∧ (i / 7 * 6 + i % 7) % 6 = i % 7 ∧ i / 7 < 7 ∧ i / 7 * 7 + i % 7 = i := by
  omega
theorem cf_main {P : Nat → Prop} (h : ∀ j, P j → j < 49 ∧ j % 7 < 6) :
    (cf_F P 1 ∨ cf_F P 7 ∨ cf_F P 8 ∨ cf_F P 6) ↔ ∃ k, k < 42 ∧ cf_K P (nI (k / 6)) (nI (k % 6)) := by
  constructor
  · intro hF
    have go : ∀ i, P i → (cf_K P (nI (i / 7)) (nI (i % 7))) → ∃ k, k < 42 ∧ cf_K P (nI (k / 6)) (nI (k % 6)) := by
      intro i hp hk
      obtain ⟨h1, h2⟩ := h i hp
      obtain ⟨a, b, c, _⟩ := cf_i6 h2 h1
      refine ⟨i / 7 * 6 + i % 7, a, ?_⟩
      rw [b, c]
      exact hk
    rcases hF with ⟨i, p0, p1, p2, p3⟩ | ⟨i, p0, p1, p2, p3⟩ | ⟨i, p0, p1, p2, p3⟩ | ⟨i, p0, p1, p2, p3⟩
    · have q0 := h _ p0
      have q1 := h _ p1
      have q2 := h _ p2
      have q3 := h _ p3
      have e := (cf_i6 q0.2 q0.1).2.2.2
      exact go i p0 (Or.inl ((cf_Lv e.1 q0.2).mpr ⟨by omega, cf_P p0 (by omega), cf_P p1 (by omega), cf_P p2 (by omega), cf_P p3 (by omega)⟩))
    · have q0 := h _ p0
      have q1 := h _ p1
      have q2 := h _ p2
      have q3 := h _ p3
      have e := (cf_i6 q0.2 q0.1).2.2.2
      exact go i p0 (Or.inr (Or.inl ((cf_Lh e.1 q0.2).mpr ⟨by omega, cf_P p0 (by omega), cf_P p1 (by omega), cf_P p2 (by omega), cf_P p3 (by omega)⟩)))
    · have q0 := h _ p0
      have q1 := h _ p1
      have q2 := h _ p2
      have q3 := h _ p3
      have e := (cf_i6 q0.2 q0.1).2.2.2
      exact go i p0 (Or.inr (Or.inr (Or.inl ((cf_Lr e.1 q0.2).mpr ⟨by omega, by omega, cf_P p0 (by omega), cf_P p1 (by omega), cf_P p2 (by omega), cf_P p3 (by omega)⟩))))
    · have q0 := h _ p0
      have q1 := h _ p1
      have q2 := h _ p2
      have q3 := h _ p3
      have e := (cf_i6 q0.2 q0.1).2.2.2
      exact go i p0 (Or.inr (Or.inr (Or.inr ((cf_Lf e.1 q0.2).mpr ⟨by omega, by omega, cf_P p0 (by omega), cf_P p1 (by omega), cf_P p2 (by omega), cf_P p3 (by omega)⟩))))
  · intro ⟨k, hk, hK⟩
    have hc : k / 6 < 7 := by omega
    have hr : k % 6 < 6 := by omega
    rcases hK with hL | hL | hL | hL
    · obtain ⟨_, p0, p1, p2, p3⟩ := (cf_Lv hc hr).mp hL
      exact Or.inl ⟨_, p0, p1, cf_P p2 (by omega), cf_P p3 (by omega)⟩
    · obtain ⟨_, p0, p1, p2, p3⟩ := (cf_Lh hc hr).mp hL
      exact Or.inr (Or.inl ⟨_, p0, p1, cf_P p2 (by omega), cf_P p3 (by omega)⟩)
    · obtain ⟨_, _, p0, p1, p2, p3⟩ := (cf_Lr hc hr).mp hL
      exact Or.inr (Or.inr (Or.inl ⟨_, p0, p1, cf_P p2 (by omega), cf_P p3 (by omega)⟩))
    · obtain ⟨_, _, p0, p1, p2, p3⟩ := (cf_Lf hc hr).mp hL
      exact Or.inr (Or.inr (Or.inr ⟨_, p0, p1, cf_P p2 (by omega), cf_P p3 (by omega)⟩))
