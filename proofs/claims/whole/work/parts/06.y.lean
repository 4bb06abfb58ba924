/-! the reference's own methods and loops -/
theorem cf_i7 : (7 : Int32).toInt = 7 ∧ (6 : Int32).toInt = 6 ∧ (5 : Int32).toInt = 5 ∧ (0 : Int32).toInt = 0 := by decide
theorem cf_hi7 {x : Int32} (h : nI 7 ≤ x) : ¬ x < 0 ∧ ¬ x < 7 ∧ ¬ x ≤ 6 ∧ 6 < x := by
  obtain ⟨c7, c6, c5, c0⟩ := cf_i7
  have t := Int32.le_iff_toInt_le.mp h
  rw [nI_toInt (by decide)] at t
  rw [Int32.lt_iff_toInt_lt, Int32.lt_iff_toInt_lt, Int32.le_iff_toInt_le, Int32.lt_iff_toInt_lt, c7, c6, c0]
  omega
theorem cf_hi6 {x : Int32} (h : nI 6 ≤ x) : ¬ x < 0 ∧ ¬ x ≤ 5 := by
  obtain ⟨c7, c6, c5, c0⟩ := cf_i7
  have t := Int32.le_iff_toInt_le.mp h
  rw [nI_toInt (by decide)] at t
  rw [Int32.lt_iff_toInt_lt, Int32.le_iff_toInt_le, c5, c0]
  omega
theorem cf_lo7 {a : Nat} (h : a < 7) : ¬ nI a < 0 ∧ nI a < 7 ∧ nI a ≤ 6 ∧ ¬ 6 < nI a ∧ vp_in (nI a) 7 ∧ (nI a).toNatClampNeg = a :=
  ⟨nI_pos (by omega), nI_lt (b := 7) h (by decide), nI_le (b := 6) (by omega) (by decide), nI_nlt (a := 6) (by omega) (by decide), vp_in_nI h (by decide), nI_clamp (by omega)⟩
theorem cf_ix (a b : Nat) : nI a * 7 + nI b = nI (a * 7 + b) := (congrArg (· + nI b) (pk_mul a 7)).trans (nI_add _ _)
theorem cf_nAx {P : Nat → Prop} {x y : Int32} (h : ∀ a, a < 7 → x ≠ nI a) : ¬ cf_A P x y := fun ⟨a, _, ha, _, ex, _⟩ => h a ha ex
theorem cf_nAy {P : Nat → Prop} {x y : Int32} (h : ∀ b, b < 6 → y ≠ nI b) : ¬ cf_A P x y := fun ⟨_, b, _, hb, _, ey, _⟩ => h b hb ey
theorem cf_ng {x : Int32} (h : x < 0) (n : Nat) (hn : n < 7) : x ≠ nI n := fun e => nI_pos (n := n) (by omega) (e ▸ h)
theorem cf_at (post : Int32 → Prop) {mv : Int32} {e g : Nat → Int32} (x y w : Int32) (h1 : cf_A (fun j => e j = w) x y → post 1) (h0 : ¬ cf_A (fun j => e j = w) x y → post 0) :
    wpY_at post (mv, e, g) x y w := by
  unfold wpY_at
  dsimp only
  rcases pk_ix x (n := 7) (by decide) with hx | hx | ⟨a, ha, rfl⟩
  · exact br_t hx (h0 (cf_nAx (fun a ha => cf_ng hx a ha)))
  · obtain ⟨q0, _, _, q6⟩ := cf_hi7 hx
    exact br_f q0 (br_t q6 (h0 (cf_nAx (fun a ha ex => nI_ge (a := a) (b := 7) ha (by decide) (ex ▸ hx)))))
  · obtain ⟨q0, _, _, q6, _, _⟩ := cf_lo7 ha
    refine br_f q0 (br_f q6 ?_)
    rcases pk_ix y (n := 6) (by decide) with hy | hy | ⟨b, hb, rfl⟩
    · exact br_t hy (h0 (cf_nAy (fun b hb => cf_ng hy b (by omega))))
    · obtain ⟨p0, p5⟩ := cf_hi6 hy
      exact br_f p0 (br_f p5 (h0 (cf_nAy (fun b hb ey => nI_ge (a := b) (b := 6) hb (by decide) (ey ▸ hy)))))
    · rw [cf_ix, nI_clamp (show a * 7 + b < 2 ^ 31 by omega)]
      refine br_f (nI_pos (by omega)) (br_t (nI_le (b := 5) (by omega) (by decide)) ⟨vp_in_nI (by omega) (by decide), ?_⟩)
      by_cases hc : e (a * 7 + b) = w
      · exact br_t hc (h1 ⟨a, b, ha, hb, rfl, rfl, hc⟩)
      · refine br_f hc (h0 ?_)
        intro ⟨a', b', ha', hb', ex, ey, hp⟩
        have e1 := (nI_eq (by omega) (by omega)).mp ex
        have e2 := (nI_eq (by omega) (by omega)).mp ey
        subst e1 e2
        exact hc hp
theorem cf_line (post : Int32 → Prop) {mv : Int32} {e g : Nat → Int32} (x y dx dy w : Int32) (h1 : cf_L (fun j => e j = w) x y dx dy → post 1) (h0 : ¬ cf_L (fun j => e j = w) x y dx dy → post 0) :
    wpY_line post (mv, e, g) x y dx dy w := by
  unfold wpY_line
  dsimp only
  refine cf_at _ x y w (fun a => br_f (by decide) ?_) (fun a => br_t rfl (h0 (fun l => a l.1)))
  refine cf_at _ _ _ w (fun b => br_f (by decide) ?_) (fun b => br_t rfl (h0 (fun l => b l.2.1)))
  refine cf_at _ _ _ w (fun c => br_f (by decide) ?_) (fun c => br_t rfl (h0 (fun l => c l.2.2.1)))
  exact cf_at _ _ _ w (fun d => br_f (by decide) (h1 ⟨a, b, c, d⟩)) (fun d => br_t rfl (h0 (fun l => d l.2.2.2)))
def cf_G (P : Nat → Prop) : Prop := ∃ k, k < 42 ∧ cf_K P (nI (k / 6)) (nI (k % 6))
theorem cf_scan (post : Int32 → SY → Prop) (w mv : Int32) (e g : Nat → Int32) (h2 : cf_G (fun j => e j = w) → post 2 (mv, e, g)) (h1 : ¬ cf_G (fun j => e j = w) → post 1 (mv, e, g)) :
    ∀ d i : Nat, i + d = 42 → (∀ k, k < i → ¬ cf_K (fun j => e j = w) (nI (k / 6)) (nI (k % 6))) → wY_drop_70 post w mv e g (d + 1) (nI i) := by
  intro d
  induction d with
  | zero =>
    intro i hi hn
    refine br_t (nI_le (a := 42) (by omega) (by omega)) (h1 ?_)
    intro ⟨k, hk, hK⟩
    exact hn k (by omega) hK
  | succ d ih =>
    intro i hi hn
    have hlt : ¬ (42 : Int32) ≤ nI i := nI_ge (b := 42) (by omega) (by decide)
    have e5 : nI i / 6 = nI (i / 6) := pk_div (d := 6) (by omega) (by decide) (by decide)
    have e6 : nI i - nI i / 6 * 6 = nI (i % 6) := pk_rem (d := 6) (by omega) (by decide) (by decide)
    refine br_f hlt ⟨by decide, nm_r e5 ⟨by decide, nm_r e6 ?_⟩⟩
    refine cf_line _ _ _ 0 1 w (fun l => br_f (by decide) (h2 ⟨i, by omega, Or.inl l⟩)) (fun l1 => br_t rfl ?_)
    refine cf_line _ _ _ 1 0 w (fun l => br_f (by decide) (h2 ⟨i, by omega, Or.inr (Or.inl l)⟩)) (fun l2 => br_t rfl ?_)
    refine cf_line _ _ _ 1 1 w (fun l => br_f (by decide) (h2 ⟨i, by omega, Or.inr (Or.inr (Or.inl l))⟩)) (fun l3 => br_t rfl ?_)
    refine cf_line _ _ _ 1 (-1) w (fun l => br_f (by decide) (h2 ⟨i, by omega, Or.inr (Or.inr (Or.inr l))⟩)) (fun l4 => br_t rfl (fun z ez => ?_))
    rw [ez, nI_1]
    refine ih (i + 1) (by omega) (lt_s hn ?_)
    intro t
    rcases t with t | t | t | t
    · exact l1 t
    · exact l2 t
    · exact l3 t
    · exact l4 t
theorem cf_by : ∀ n, n < 8 → (nI n).toInt8.toInt32 = nI n := by decide +kernel
theorem cf_ch : ∀ n, n < 3 → ((nI n).toUInt32 % 65536).toInt32 = nI n := by decide +kernel
theorem cf_who (m : Nat) (hm : m < 2 ^ 31) : 1 + (nI m &&& 1) = nI (1 + m % 2) := by
  rw [pk_andN (n := m) (by omega) 1 (by decide)]
  exact nI_add 1 (m % 2)
theorem cf_ydrop (post : Int32 → SY → Prop) {m : Nat} {e g : Nat → Int32} {a r w : Nat} (hm : m < 2 ^ 31) (ha : a < 7) (hr : r < 6) (hg : g a = nI r) (hw : w = 1 + m % 2)
    (h2 : cf_G (fun j => upd e (a * 7 + r) (nI w) j = nI w) → post 2 (nI (m + 1), upd e (a * 7 + r) (nI w), upd g a (nI (r + 1))))
    (h1 : ¬ cf_G (fun j => upd e (a * 7 + r) (nI w) j = nI w) → post 1 (nI (m + 1), upd e (a * 7 + r) (nI w), upd g a (nI (r + 1)))) :
    wpY_drop post (nI m, e, g) (nI a) := by
  obtain ⟨q0, q7, q6, _, qin, qcl⟩ := cf_lo7 ha
  have hb : vp_nar .byte ((nI r + 1).toInt8.toInt32) = nI (r + 1) := by
    rw [pk_vb, nI_1]
    exact cf_by (r + 1) (by omega)
  have hc : vp_nar .char (((nI w).toUInt32 % 65536).toInt32) = nI w := by
    rw [pk_vc]
    exact cf_ch w (by omega)
  have hi : (nI a * 7 + nI r).toNatClampNeg = a * 7 + r := by rw [cf_ix, nI_clamp (by omega)]
  have hin : vp_in (nI a * 7 + nI r) 49 := by rw [cf_ix]; exact vp_in_nI (by omega) (by decide)
  unfold wpY_drop
  dsimp only
  rw [qcl, hg]
  refine br_f q0 (br_t q6 ⟨qin, br_t (nI_lt (b := 6) hr (by decide)) ?_⟩)
  refine nm_r (nI_1 m) (nm_r (e' := nI w) ((cf_who m hm).trans (congrArg nI hw.symm)) ⟨qin, qin, ?_⟩)
  refine nm_r (e' := upd g a (nI (r + 1))) (congrArg (upd g a) hb) (nm_e ⟨hin, ?_⟩)
  refine nm_r (e' := upd e (a * 7 + r) (nI w)) (by rw [hi, hc]) ⟨43, ?_⟩
  exact cf_scan post (nI w) _ _ _ h2 h1 42 0 rfl lt_0
theorem cf_sum_k (post : Int64 → Prop) {w : Nat} {mv : Int32} {e g : Nat → Int32} {c : Nat → Nat} (hc : ∀ j, c j ≤ 2 ∧ e j = nI (c j)) (hw : w ≤ 2) (h : post (lN (cf_kk c w 49))) :
    ∀ d i : Nat, i + d = 49 → wY_key_14 post (nI w) mv e g (d + 1) (lN (cf_kk c w i)) (nI i) := by
  intro d
  induction d with
  | zero =>
    intro i hi
    have e49 : i = 49 := hi
    subst e49
    exact br_t (nI_le (a := 49) (by omega) (by omega)) h
  | succ d ih =>
    intro i hi
    have hlt : ¬ (49 : Int32) ≤ nI i := nI_ge (b := 49) (by omega) (by decide)
    have hin : vp_in (nI i) 49 := vp_in_nI (by omega) (by decide)
    have hcl : (nI i).toNatClampNeg = i := nI_clamp (by omega)
    have h38 : ∀ a : Nat, a + (if c i = w then 2 ^ i else 0) = cf_kk c w (i + 1) → wY_key_38 post (wY_key_14 post (nI w) mv e g (d + 1)) (nI w) (lN a) (nI i) mv e g := by
      intro a hk
      unfold wY_key_38
      rw [hcl, (hc i).2]
      refine ⟨hin, ?_⟩
      by_cases hq : c i = w
      · rw [if_pos hq] at hk
        refine br_t (congrArg nI hq) (fun y ey z ez => ?_)
        rw [ey, ez, cf_one (by omega), lN_add, hk, nI_1]
        exact ih (i + 1) (by omega)
      · rw [if_neg hq, Nat.add_zero] at hk
        refine br_f (fun t => hq ((cf_nIc (hc i).1 w hw).mp t)) (fun z ez => ?_)
        rw [ez, hk, nI_1]
        exact ih (i + 1) (by omega)
    have hs := cf_kk_s c w i
    refine br_f hlt ⟨hin, ?_⟩
    rw [hcl, (hc i).2]
    by_cases h0 : c i = 0
    · rw [if_neg (fun z => z h0), Nat.add_zero] at hs
      exact br_t ((congrArg nI h0).trans nI_0) (h38 _ hs.symm)
    · rw [if_pos h0] at hs
      refine br_f (nI_ne0 (by omega) (by have := (hc i).1; omega)) (fun y ey => ?_)
      rw [ey, cf_one (by omega), lN_add]
      exact h38 _ hs.symm
