/-! the invariant: heights h, cells c (0 empty, 1 first, 2 second) -/
def cf_I (g e : Nat → Int32) (f s : Int64) (h c : Nat → Nat) : Prop :=
  (∀ q, q < 7 → h q ≤ 6 ∧ g q = nI (h q)) ∧ (∀ j, c j ≤ 2 ∧ e j = nI (c j)) ∧ (∀ j, 49 ≤ j → c j = 0) ∧
  (∀ q r, q < 7 → r < 7 → h q ≤ r → c (q * 7 + r) = 0) ∧
  (∀ j, cf_b f j = decide (c j = 1)) ∧ (∀ j, cf_b s j = decide (c j = 2))
theorem cf_I0 : cf_I (fun _ => 0) (fun _ => 0) 0 0 (fun _ => 0) (fun _ => 0) :=
  ⟨fun _ _ => ⟨Nat.zero_le _, nI_0.symm⟩, fun _ => ⟨Nat.zero_le _, nI_0.symm⟩, fun _ _ => rfl, fun _ _ _ _ _ => rfl,
    fun j => cf_0 j, fun j => cf_0 j⟩
/-- every stone lies on the grid -/
theorem cf_on {g e : Nat → Int32} {f s : Int64} {h c : Nat → Nat} (I : cf_I g e f s h c) {j : Nat} (hj : ¬ c j = 0) : j < 49 ∧ j % 7 < 6 := by
  obtain ⟨I1, I2, I3, I4, I5, I6⟩ := I
  have h49 : j < 49 := by
    apply Classical.byContradiction
    intro hn
    exact hj (I3 j (by omega))
  refine ⟨h49, ?_⟩
  apply Classical.byContradiction
  intro hn
  have h7 : j / 7 < 7 := by omega
  have hz := I4 (j / 7) 6 h7 (by decide) (I1 (j / 7) h7).1
  rw [show j / 7 * 7 + 6 = j by omega] at hz
  exact hj hz
theorem cf_nIc {a : Nat} (ha : a ≤ 2) (w : Nat) (hw : w ≤ 2) : nI a = nI w ↔ a = w := nI_eq (by omega) (by omega)
/-- the same cells, asked in the array and in the words -/
theorem cf_P1 {g e : Nat → Int32} {f s : Int64} {h c : Nat → Nat} (I : cf_I g e f s h c) : (fun j => cf_b f j = true) = (fun j => e j = nI 1) := by
  obtain ⟨_, I2, _, _, I5, _⟩ := I
  funext j
  show (cf_b f j = true) = (e j = nI 1)
  rw [I5 j, (I2 j).2, cf_nIc (I2 j).1 1 (by decide)]
  exact propext decide_eq_true_iff
theorem cf_P2 {g e : Nat → Int32} {f s : Int64} {h c : Nat → Nat} (I : cf_I g e f s h c) : (fun j => cf_b s j = true) = (fun j => e j = nI 2) := by
  obtain ⟨_, I2, _, _, _, I6⟩ := I
  funext j
  show (cf_b s j = true) = (e j = nI 2)
  rw [I6 j, (I2 j).2, cf_nIc (I2 j).1 2 (by decide)]
  exact propext decide_eq_true_iff
theorem cf_Pon {g e : Nat → Int32} {f s : Int64} {h c : Nat → Nat} (I : cf_I g e f s h c) {w : Nat} (h0 : 0 < w) (h2 : w ≤ 2) : ∀ j, e j = nI w → j < 49 ∧ j % 7 < 6 := by
  intro j hj
  apply cf_on I
  rw [(I.2.1 j).2, cf_nIc (I.2.1 j).1 w h2] at hj
  omega
/-- a stone more -/
def cf_up (c : Nat → Nat) (i w : Nat) : Nat → Nat := fun j => if j = i then w else c j
theorem cf_ups (c : Nat → Nat) (i w : Nat) : cf_up c i w i = w := if_pos rfl
theorem cf_upn (c : Nat → Nat) {i j : Nat} (w : Nat) (h : j ≠ i) : cf_up c i w j = c j := if_neg h
theorem cf_upI (e : Nat → Int32) (c : Nat → Nat) (i w j : Nat) (h : e j = nI (c j)) : upd e i (nI w) j = nI (cf_up c i w j) := by
  by_cases hj : j = i
  · subst hj
    rw [pk_us, cf_ups]
  · rw [pk_un hj, cf_upn _ _ hj, h]
theorem cf_put {f : Int64} {c : Nat → Nat} {i w : Nat} (hi : i < 64) (hf : ∀ j, cf_b f j = decide (c j = w)) :
    ∀ j, cf_b (f ||| lN (2 ^ i)) j = decide (cf_up c i w j = w) := by
  intro j
  rw [cf_or, cf_pow hi, hf]
  by_cases hj : j = i
  · subst hj
    rw [cf_ups]
    simp
  · rw [cf_upn _ _ hj, decide_eq_false hj, Bool.or_false]
theorem cf_keep {f : Int64} {c : Nat → Nat} {i w v : Nat} (hc : c i = 0) (hv : 0 < v) (hvw : w ≠ v) (hf : ∀ j, cf_b f j = decide (c j = v)) :
    ∀ j, cf_b f j = decide (cf_up c i w j = v) := by
  intro j
  rw [hf]
  by_cases hj : j = i
  · subst hj
    rw [cf_ups, hc, decide_eq_false (show ¬ 0 = v by omega), decide_eq_false hvw]
  · rw [cf_upn _ _ hj]
theorem cf_step {g e : Nat → Int32} {f s f' s' : Int64} {h c : Nat → Nat} {q w : Nat} (I : cf_I g e f s h c) (hq : q < 7) (hh : h q < 6) (hw : w ≤ 2)
    (hf : ∀ j, cf_b f' j = decide (cf_up c (q * 7 + h q) w j = 1)) (hs : ∀ j, cf_b s' j = decide (cf_up c (q * 7 + h q) w j = 2)) :
    cf_I (upd g q (nI (h q + 1))) (upd e (q * 7 + h q) (nI w)) f' s' (cf_up h q (h q + 1)) (cf_up c (q * 7 + h q) w) := by
  obtain ⟨I1, I2, I3, I4, I5, I6⟩ := I
  refine ⟨?_, ?_, ?_, ?_, hf, hs⟩
  · intro p hp
    refine ⟨?_, cf_upI g h q (h q + 1) p (I1 p hp).2⟩
    by_cases hpq : p = q
    · subst hpq
      rw [cf_ups]; omega
    · rw [cf_upn _ _ hpq]
      exact (I1 p hp).1
  · intro j
    refine ⟨?_, cf_upI e c _ w j (I2 j).2⟩
    by_cases hj : j = q * 7 + h q
    · rw [hj, cf_ups]; exact hw
    · rw [cf_upn _ _ hj]
      exact (I2 j).1
  · intro j hj
    rw [cf_upn _ _ (show j ≠ q * 7 + h q by omega)]
    exact I3 j hj
  · intro p r hp hr hpr
    by_cases hpq : p = q
    · subst hpq
      rw [cf_ups] at hpr
      rw [cf_upn _ _ (show p * 7 + r ≠ p * 7 + h p by omega)]
      exact I4 p r hp hr (by omega)
    · rw [cf_upn _ _ hpq] at hpr
      rw [cf_upn _ _ (show p * 7 + r ≠ q * 7 + h q by omega)]
      exact I4 p r hp hr hpr
theorem cf_step1 {g e : Nat → Int32} {f s : Int64} {h c : Nat → Nat} {q : Nat} (I : cf_I g e f s h c) (hq : q < 7) (hh : h q < 6) :
    cf_I (upd g q (nI (h q + 1))) (upd e (q * 7 + h q) (nI 1)) (f ||| lN (2 ^ (q * 7 + h q))) s (cf_up h q (h q + 1)) (cf_up c (q * 7 + h q) 1) := by
  have hc : c (q * 7 + h q) = 0 := I.2.2.2.1 q (h q) hq (by omega) (Nat.le_refl _)
  exact cf_step I hq hh (by decide) (cf_put (by omega) I.2.2.2.2.1) (cf_keep hc (by decide) (by decide) I.2.2.2.2.2)
theorem cf_step2 {g e : Nat → Int32} {f s : Int64} {h c : Nat → Nat} {q : Nat} (I : cf_I g e f s h c) (hq : q < 7) (hh : h q < 6) :
    cf_I (upd g q (nI (h q + 1))) (upd e (q * 7 + h q) (nI 2)) f (s ||| lN (2 ^ (q * 7 + h q))) (cf_up h q (h q + 1)) (cf_up c (q * 7 + h q) 2) := by
  have hc : c (q * 7 + h q) = 0 := I.2.2.2.1 q (h q) hq (by omega) (Nat.le_refl _)
  exact cf_step I hq hh (by decide) (cf_keep hc (by decide) (by decide) I.2.2.2.2.1) (cf_put (by omega) I.2.2.2.2.2)
/-- the words as sums -/
theorem cf_w1 {g e : Nat → Int32} {f s : Int64} {h c : Nat → Nat} (I : cf_I g e f s h c) : f = lN (cf_sum (fun j => decide (c j = 1)) 49) :=
  cf_word I.2.2.2.2.1 (fun j hj => decide_eq_false (by rw [I.2.2.1 j hj]; decide))
theorem cf_w2 {g e : Nat → Int32} {f s : Int64} {h c : Nat → Nat} (I : cf_I g e f s h c) : s = lN (cf_sum (fun j => decide (c j = 2)) 49) :=
  cf_word I.2.2.2.2.2 (fun j hj => decide_eq_false (by rw [I.2.2.1 j hj]; decide))
theorem cf_w3 {g e : Nat → Int32} {f s : Int64} {h c : Nat → Nat} (I : cf_I g e f s h c) : (f ||| s) = lN (cf_sum (fun j => decide (¬ c j = 0)) 49) := by
  refine cf_word (fun j => ?_) (fun j hj => decide_eq_false (fun hn => hn (I.2.2.1 j hj)))
  show cf_b (f ||| s) j = decide (¬ c j = 0)
  rw [cf_or, I.2.2.2.2.1 j, I.2.2.2.2.2 j]
  have h2 := (I.2.1 j).1
  revert h2
  generalize c j = x
  intro h2
  match x, h2 with
  | 0, _ => rfl
  | 1, _ => rfl
  | 2, _ => rfl
  | n + 3, h3 => exact absurd h3 (by omega)
/-- the key: both words' sum, as the reference adds it up -/
def cf_kk (c : Nat → Nat) (w n : Nat) : Nat := cf_sum (fun j => decide (¬ c j = 0)) n + cf_sum (fun j => decide (c j = w)) n
theorem cf_kk0 (c : Nat → Nat) (w : Nat) : cf_kk c w 0 = 0 := rfl
theorem cf_key1 {g e : Nat → Int32} {f s : Int64} {h c : Nat → Nat} (I : cf_I g e f s h c) : f + (f ||| s) = lN (cf_kk c 1 49) := by
  rw [cf_w3 I, cf_w1 I, lN_add, Nat.add_comm]
  rfl
theorem cf_key2 {g e : Nat → Int32} {f s : Int64} {h c : Nat → Nat} (I : cf_I g e f s h c) : s + (f ||| s) = lN (cf_kk c 2 49) := by
  rw [cf_w3 I, cf_w2 I, lN_add, Nat.add_comm]
  rfl
theorem cf_kk_s (c : Nat → Nat) (w n : Nat) : cf_kk c w (n + 1) = cf_kk c w n + (if ¬ c n = 0 then 2 ^ n else 0) + (if c n = w then 2 ^ n else 0) := by
  unfold cf_kk
  rw [cf_sum, cf_sum]
  simp only [decide_eq_true_eq]
  omega
