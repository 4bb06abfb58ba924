/-! the component's own methods -/
theorem cf_fitm (post : Int32 → Prop) {f s : Int64} {m : Nat} {g : Nat → Int32} (hm : m < 2 ^ 31) (h1 : m % 2 = 0 → post 1) (h0 : m % 2 = 1 → post 0) :
    wpX_firstIsToMove post (f, s, nI m, g) := by
  have e : nI m - nI m / 2 * 2 = nI (m % 2) := pk_rem (d := 2) hm (by decide) (by decide)
  show ¬ (2 : Int32) = 0 ∧ ((nI m - nI m / 2 * 2 = 0 → post 1) ∧ (¬ nI m - nI m / 2 * 2 = 0 → post 0))
  rw [e]
  refine ⟨by decide, ?_⟩
  by_cases h : m % 2 = 0
  · exact br_t ((congrArg nI h).trans nI_0) (h1 h)
  · exact br_f (nI_ne0 (by omega) (by omega)) (h0 (by omega))
theorem cf_stm (post : Int64 → Prop) {f s : Int64} {m : Nat} {g : Nat → Int32} (hm : m < 2 ^ 31) (h1 : m % 2 = 0 → post f) (h0 : m % 2 = 1 → post s) :
    wpX_stonesToMove post (f, s, nI m, g) := by
  unfold wpX_stonesToMove
  dsimp only
  exact cf_fitm _ hm (fun h => br_f (by decide) (h1 h)) (fun h => br_t rfl (h0 h))
theorem cf_pfm (post : SX → Prop) {f s w : Int64} {m : Nat} {g : Nat → Int32} (hm : m < 2 ^ 31) (h1 : m % 2 = 0 → post (f ||| w, s, nI m, g)) (h0 : m % 2 = 1 → post (f, s ||| w, nI m, g)) :
    wpX_placeForMover post (f, s, nI m, g) w := by
  unfold wpX_placeForMover
  dsimp only
  exact cf_fitm _ hm (fun h => br_f (by decide) (fun y ey => by subst ey; exact h1 h)) (fun h => br_t rfl (fun y ey => by subst ey; exact h0 h))
theorem cf_hfa (post : Int32 → Prop) (s : Int64) (d : Nat) (hd : 2 * d < 64) (h1 : cf_F (fun j => cf_b s j = true) d → post 1) (h0 : ¬ cf_F (fun j => cf_b s j = true) d → post 0) :
    wpX_hasFourAlong post s (nI d) := by
  intro z ez
  have e2 : 2 * nI d = nI (2 * d) := pk_mul 2 d
  rw [e2]
  have key := cf_along s d hd z _ ez rfl
  by_cases hf : cf_F (fun j => cf_b s j = true) d
  · exact br_f (key.mpr hf) (h1 hf)
  · exact br_t (Classical.byContradiction fun hn => hf (key.mp hn)) (h0 hf)
def cf_FF (P : Nat → Prop) : Prop := cf_F P 1 ∨ cf_F P 7 ∨ cf_F P 8 ∨ cf_F P 6
theorem cf_hf (post : Int32 → Prop) (s : Int64) (h1 : cf_FF (fun j => cf_b s j = true) → post 1) (h0 : ¬ cf_FF (fun j => cf_b s j = true) → post 0) :
    wpX_hasFour post s := by
  unfold wpX_hasFour
  refine cf_hfa _ s 1 (by decide) (fun a => br_f (by decide) (h1 (Or.inl a))) (fun a => br_t rfl ?_)
  refine cf_hfa _ s 7 (by decide) (fun b => br_f (by decide) (h1 (Or.inr (Or.inl b)))) (fun b => br_t rfl ?_)
  refine cf_hfa _ s 8 (by decide) (fun c => br_f (by decide) (h1 (Or.inr (Or.inr (Or.inl c))))) (fun c => br_t rfl ?_)
  refine cf_hfa _ s 6 (by decide) (fun d => br_f (by decide) (h1 (Or.inr (Or.inr (Or.inr d))))) (fun d => br_t rfl (h0 ?_))
  intro t
  rcases t with t | t | t | t
  · exact a t
  · exact b t
  · exact c t
  · exact d t
