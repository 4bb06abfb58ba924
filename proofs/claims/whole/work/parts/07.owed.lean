/-! what is owed -/
def i_Rel (k : Nat) (u : SX) (v : SY) : Prop := ∃ (f s : Int64) (m : Nat) (g e : Nat → Int32) (h c : Nat → Nat), u = (f, s, nI m, g) ∧ v = (nI m, e, g) ∧ m ≤ k ∧ cf_I g e f s h c
theorem i_up {k : Nat} {u : SX} {v : SY} (h : i_Rel k u v) : i_Rel (k + 2) u v := by
  obtain ⟨f, s, m, g, e, h, c, hu, hv, hm, I⟩ := h
  exact ⟨f, s, m, g, e, h, c, hu, hv, by omega, I⟩
theorem i_vc0 : wpX_init (fun u => wpY_init (fun v => i_Rel 0 u v)) :=
  ⟨0, 0, 0, fun _ => 0, fun _ => 0, fun _ => 0, fun _ => 0, rfl, rfl, Nat.le_refl 0, cf_I0⟩
theorem cf_drop1 {k : Nat} {f s : Int64} {m : Nat} {g e : Nat → Int32} {h c : Nat → Nat} {a : Nat} (hk : k + 2 ≤ 1024) (hm : m ≤ k) (I : cf_I g e f s h c) (ha : a < 7) (hh : h a < 6) (p : m % 2 = 0) :
    wpX_hasFour (fun r => (r = 0 → wpY_drop (fun r' v' => r' = 1 ∧ i_Rel (k + 2) (f ||| lN (2 ^ (a * 7 + h a)), s, nI (m + 1), upd g a (nI (h a + 1))) v') (nI m, e, g) (nI a)) ∧ (¬ r = 0 → wpY_drop (fun r' v' => r' = 2 ∧ i_Rel (k + 2) (f ||| lN (2 ^ (a * 7 + h a)), s, nI (m + 1), upd g a (nI (h a + 1))) v') (nI m, e, g) (nI a))) (f ||| lN (2 ^ (a * 7 + h a))) := by
  have I' := cf_step1 I ha hh
  have M : cf_FF (fun j => cf_b (f ||| lN (2 ^ (a * 7 + h a))) j = true) ↔ cf_G (fun j => upd e (a * 7 + h a) (nI 1) j = nI 1) := by
    rw [cf_P1 I']
    exact cf_main (cf_Pon I' (by decide) (by decide))
  have J : i_Rel (k + 2) (f ||| lN (2 ^ (a * 7 + h a)), s, nI (m + 1), upd g a (nI (h a + 1))) (nI (m + 1), upd e (a * 7 + h a) (nI 1), upd g a (nI (h a + 1))) :=
    ⟨_, _, m + 1, _, _, _, _, rfl, rfl, by omega, I'⟩
  have hg := (I.1 a ha).2
  refine cf_hf _ _ (fun F => br_f (by decide) ?_) (fun F => br_t rfl ?_)
  · exact cf_ydrop _ (w := 1) (by omega) ha hh hg (by omega) (fun _ => ⟨rfl, J⟩) (fun hn => absurd (M.mp F) hn)
  · exact cf_ydrop _ (w := 1) (by omega) ha hh hg (by omega) (fun hy => absurd (M.mpr hy) F) (fun _ => ⟨rfl, J⟩)
theorem cf_drop2 {k : Nat} {f s : Int64} {m : Nat} {g e : Nat → Int32} {h c : Nat → Nat} {a : Nat} (hk : k + 2 ≤ 1024) (hm : m ≤ k) (I : cf_I g e f s h c) (ha : a < 7) (hh : h a < 6) (p : m % 2 = 1) :
    wpX_hasFour (fun r => (r = 0 → wpY_drop (fun r' v' => r' = 1 ∧ i_Rel (k + 2) (f, s ||| lN (2 ^ (a * 7 + h a)), nI (m + 1), upd g a (nI (h a + 1))) v') (nI m, e, g) (nI a)) ∧ (¬ r = 0 → wpY_drop (fun r' v' => r' = 2 ∧ i_Rel (k + 2) (f, s ||| lN (2 ^ (a * 7 + h a)), nI (m + 1), upd g a (nI (h a + 1))) v') (nI m, e, g) (nI a))) (s ||| lN (2 ^ (a * 7 + h a))) := by
  have I' := cf_step2 I ha hh
  have M : cf_FF (fun j => cf_b (s ||| lN (2 ^ (a * 7 + h a))) j = true) ↔ cf_G (fun j => upd e (a * 7 + h a) (nI 2) j = nI 2) := by
    rw [cf_P2 I']
    exact cf_main (cf_Pon I' (by decide) (by decide))
  have J : i_Rel (k + 2) (f, s ||| lN (2 ^ (a * 7 + h a)), nI (m + 1), upd g a (nI (h a + 1))) (nI (m + 1), upd e (a * 7 + h a) (nI 2), upd g a (nI (h a + 1))) :=
    ⟨_, _, m + 1, _, _, _, _, rfl, rfl, by omega, I'⟩
  have hg := (I.1 a ha).2
  refine cf_hf _ _ (fun F => br_f (by decide) ?_) (fun F => br_t rfl ?_)
  · exact cf_ydrop _ (w := 2) (by omega) ha hh hg (by omega) (fun _ => ⟨rfl, J⟩) (fun hn => absurd (M.mp F) hn)
  · exact cf_ydrop _ (w := 2) (by omega) ha hh hg (by omega) (fun hy => absurd (M.mpr hy) F) (fun _ => ⟨rfl, J⟩)
theorem i_vc_drop {k : Nat} {u : SX} {v : SY} (I : i_Rel k u v) (hk : k + 2 ≤ 1024) (v1 : Int32) : wpX_drop (fun r u' => wpY_drop (fun r' v' => r' = r ∧ i_Rel (k + 2) u' v') v v1) u v1 := by
  have J := i_up I
  obtain ⟨f, s, m, g, e, h, c, rfl, rfl, hm, I⟩ := I
  have hm' : m < 2 ^ 31 := by omega
  rcases pk_ix v1 (n := 7) (by decide) with hx | hx | ⟨a, ha, rfl⟩
  · exact br_t hx (br_t hx ⟨rfl, J⟩)
  · obtain ⟨q0, q7, q6, _⟩ := cf_hi7 hx
    exact br_f q0 (br_f q7 (br_f q0 (br_f q6 ⟨rfl, J⟩)))
  · obtain ⟨q0, q7, q6, _, qin, qcl⟩ := cf_lo7 ha
    obtain ⟨hl, hg⟩ := I.1 a ha
    have hgc : g (nI a).toNatClampNeg = nI (h a) := by rw [qcl]; exact hg
    refine br_f q0 (br_t q7 ⟨qin, nm_r hgc ?_⟩)
    by_cases hh : h a < 6
    · refine br_t (nI_lt (b := 6) hh (by decide)) ?_
      have eb : (1 : Int64) <<< ((nI a * 7 + nI (h a)).toInt64 &&& 63) = lN (2 ^ (a * 7 + h a)) := by
        rw [cf_ix]
        exact cf_one (by omega)
      have eu : upd g (nI a).toNatClampNeg (nI (h a) + 1) = upd g a (nI (h a + 1)) := by rw [qcl, nI_1]
      rw [eb]
      refine cf_pfm _ hm' (fun p => ?_) (fun p => ?_)
      · refine cf_stm _ hm' (fun _ => ⟨qin, nm_r eu (nm_r (nI_1 m) ?_)⟩) (fun q => absurd q (by omega))
        exact cf_drop1 hk hm I ha hh p
      · refine cf_stm _ hm' (fun q => absurd q (by omega)) (fun _ => ⟨qin, nm_r eu (nm_r (nI_1 m) ?_)⟩)
        exact cf_drop2 hk hm I ha hh p
    · have h6 : ¬ nI (h a) < 6 := nI_nlt (b := 6) (by omega) (by omega)
      exact br_f h6 (br_f q0 (br_t q6 ⟨qin, br_f (by rw [hgc]; exact h6) ⟨rfl, J⟩⟩))
theorem i_vc_height {k : Nat} {u : SX} {v : SY} (I : i_Rel k u v) (hk : k + 2 ≤ 1024) (v1 : Int32) : wpX_height (fun r => wpY_height (fun r' => r' = r ∧ i_Rel (k + 2) u v) v v1) u v1 := by
  have J := i_up I
  obtain ⟨f, s, m, g, e, h, c, rfl, rfl, hm, I⟩ := I
  rcases pk_ix v1 (n := 7) (by decide) with hx | hx | ⟨a, ha, rfl⟩
  · exact br_t hx (br_t hx ⟨rfl, J⟩)
  · obtain ⟨q0, q7, q6, _⟩ := cf_hi7 hx
    exact br_f q0 (br_f q7 (br_f q0 (br_f q6 ⟨rfl, J⟩)))
  · obtain ⟨q0, q7, q6, _, qin, qcl⟩ := cf_lo7 ha
    exact br_f q0 (br_t q7 ⟨qin, br_f q0 (br_t q6 ⟨qin, rfl, J⟩)⟩)
theorem i_vc_key {k : Nat} {u : SX} {v : SY} (I : i_Rel k u v) (hk : k + 2 ≤ 1024) : wpX_key (fun r => wpY_key (fun r' => r' = r ∧ i_Rel (k + 2) u v) v) u := by
  have J := i_up I
  obtain ⟨f, s, m, g, e, h, c, rfl, rfl, hm, I⟩ := I
  have hm' : m < 2 ^ 31 := by omega
  unfold wpX_key
  dsimp only
  refine cf_stm _ hm' (fun p => ?_) (fun p => ?_)
  · unfold wpY_key
    dsimp only
    refine nm_r (e' := nI 1) ((cf_who m hm').trans (congrArg nI (by omega))) ⟨50, ?_⟩
    exact cf_sum_k _ I.2.1 (by decide) ⟨(cf_key1 I).symm, J⟩ 49 0 rfl
  · unfold wpY_key
    dsimp only
    refine nm_r (e' := nI 2) ((cf_who m hm').trans (congrArg nI (by omega))) ⟨50, ?_⟩
    exact cf_sum_k _ I.2.1 (by decide) ⟨(cf_key2 I).symm, J⟩ 49 0 rfl
theorem i_vc_moves {k : Nat} {u : SX} {v : SY} (I : i_Rel k u v) (hk : k + 2 ≤ 1024) : wpX_moves (fun r => wpY_moves (fun r' => r' = r ∧ i_Rel (k + 2) u v) v) u := by
  have J := i_up I
  obtain ⟨f, s, m, g, e, h, c, rfl, rfl, hm, I⟩ := I
  exact ⟨rfl, J⟩
