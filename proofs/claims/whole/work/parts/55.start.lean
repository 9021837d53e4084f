/-! ===== the component's cells in their order; the start ===== -/
def bs (i : Nat) : Nat := if i = 0 then 1 else if i = 1 then 11 else if i < 14 then 23 + 10 * (i - 2) else if i = 14 then 146 else 157
def pi8 (k : Nat) : Nat := if k < 160 then bs (k / 10) + k % 10 else if k = 160 then 0 else if k = 161 then 21 else if k = 162 then 22 else if k = 163 then 144 else if k = 164 then 145 else if k = 165 then 156 else 143
def sg0 : Sig := fun i => if i < 16 then ta0 else fun _ _ => 0
theorem pi8_inj : ∀ i : Fin 167, ∀ j : Fin 167, pi8 i.val = pi8 j.val → i = j := by decide +kernel
theorem pi8_lt : ∀ i : Fin 167, pi8 i.val < 167 := by decide +kernel
theorem pi8_t {i c : Nat} (hi : i < 16) (hc : c < 10) : pi8 (10 * i + c) = bs i + c := by
  unfold pi8
  rw [if_pos (by omega), show (10 * i + c) / 10 = i by omega, show (10 * i + c) % 10 = c by omega]
theorem cf8_t (cI cT cM : ClassId) (q : Nat → Nat) {i c : Nat} (hi : i < 16) (hc : c < 10) : cf8 cI cT cM q (bs i + c) = cf7 cI (fun c => q (bs i + c)) c := by
  unfold cf8
  by_cases h0 : i = 0
  · have hb : bs i = 1 := by unfold bs; rw [if_pos h0]
    rw [hb, if_neg (by omega), if_pos (by omega), show 1 + c - 1 = c by omega]
  · by_cases h1 : i = 1
    · have hb : bs i = 11 := by unfold bs; rw [if_neg h0, if_pos h1]
      rw [hb, if_neg (by omega), if_neg (by omega), if_pos (by omega), show 11 + c - 11 = c by omega]
    · by_cases h2 : i < 14
      · have hb : bs i = 23 + 10 * (i - 2) := by unfold bs; rw [if_neg h0, if_neg h1, if_pos h2]
        rw [hb, if_neg (by omega), if_neg (by omega), if_neg (by omega), if_pos (by omega), show 23 + 10 * (i - 2) + c - 21 = (10 * (i - 2) + c) + 2 by omega]
        show cfT cI (fun c => q (21 + (c + 2))) (10 * (i - 2) + c) = _
        unfold cfT
        rw [show (10 * (i - 2) + c) / 10 = i - 2 by omega, show (10 * (i - 2) + c) % 10 = c by omega]
        exact cf7_congr (fun z hz => congrArg q (by omega)) c
      · by_cases h3 : i = 14
        · have hb : bs i = 146 := by unfold bs; rw [if_neg h0, if_neg h1, if_neg h2, if_pos h3]
          rw [hb, if_neg (by omega), if_neg (by omega), if_neg (by omega), if_neg (by omega), if_neg (by omega), if_neg (by omega), if_pos (by omega), show 146 + c - 145 = c + 1 by omega]
          show cf7 cI (fun j => q (145 + (j + 1))) c = _
          exact cf7_congr (fun z hz => congrArg q (by omega)) c
        · have hb : bs i = 157 := by unfold bs; rw [if_neg h0, if_neg h1, if_neg h2, if_neg h3]
          rw [hb, if_neg (by omega), if_neg (by omega), if_neg (by omega), if_neg (by omega), if_neg (by omega), if_neg (by omega), if_neg (by omega), show 157 + c - 156 = c + 1 by omega]
          show cf7 cI (fun j => q (156 + (j + 1))) c = _
          exact cf7_congr (fun z hz => congrArg q (by omega)) c
theorem cC_t (cI cT cM : ClassId) (ad : Nat → Nat) {i c : Nat} (hi : i < 16) (hc : c < 10) : cC cI cT cM ad sg0 (10 * i + c) = cf7 cI (fun c => ad (10 * i + c)) c := by
  have hσ : sg0 i = ta0 := if_pos hi
  unfold cC
  rw [if_pos (by omega), show (10 * i + c) / 10 = i by omega, show (10 * i + c) % 10 = c by omega, hσ]
  rcases (by omega : c = 0 ∨ c = 1 ∨ c = 2 ∨ c = 3 ∨ c = 4 ∨ c = 5 ∨ c = 6 ∨ c = 7 ∨ c = 8 ∨ c = 9) with rfl | rfl | rfl | rfl | rfl | rfl | rfl | rfl | rfl | rfl <;> rfl
theorem arrV_congr {cA : ClassId} {n : Nat} {f g : Nat → Value} (h : ∀ j, j < n → f j = g j) : arrV cA n f = arrV cA n g := by
  unfold arrV
  congr 1
  apply Array.ext
  · simp
  · intro j h1 h2
    simp only [Array.getElem_ofFn]
    exact h j (by simpa using h1)
theorem cw_of {D : va_G} {cI cT cM : ClassId} {q : Nat → Nat} {H : Heap} (h : va_P D vwCl (gw 167 q (cf8 cI cT cM q)) H) : va_P D vwCl (cw cI cT cM (fun k => q (pi8 k)) sg0) H := by
  intro k x hx
  obtain ⟨hk, rfl⟩ := gw_get hx
  have hv := h (pi8 k) _ (gw_at (pi8_lt ⟨k, hk⟩) rfl)
  have hgo : ∀ e : va_E, cf8 cI cT cM q (pi8 k) = e → cC cI cT cM (fun k => q (pi8 k)) sg0 k = e → va_at D vwCl (q (pi8 k), cC cI cT cM (fun k => q (pi8 k)) sg0 k) H := by
    intro e h1 h2
    rw [h2, ← h1]; exact hv
  by_cases h160 : k < 160
  · have hi : k / 10 < 16 := by omega
    have hc : k % 10 < 10 := Nat.mod_lt _ (by omega)
    have ek : k = 10 * (k / 10) + k % 10 := by omega
    refine hgo (cf7 cI (fun c => q (bs (k / 10) + c)) (k % 10)) ?_ ?_
    · rw [ek, pi8_t hi hc, show (10 * (k / 10) + k % 10) / 10 = k / 10 by omega, show (10 * (k / 10) + k % 10) % 10 = k % 10 by omega]
      exact cf8_t cI cT cM q hi hc
    · have := cC_t cI cT cM (fun k => q (pi8 k)) hi hc
      rw [← ek] at this
      rw [this]
      exact cf7_congr (fun z hz => by rw [pi8_t hi hz]) _
  · rcases (by omega : k = 160 ∨ k = 161 ∨ k = 162 ∨ k = 163 ∨ k = 164 ∨ k = 165 ∨ k = 166) with rfl | rfl | rfl | rfl | rfl | rfl | rfl
    · exact hgo _ rfl rfl
    · exact hgo _ rfl rfl
    · have hv' : H[q 22]? = some (arrV cT 12 (fun j => va_rf (rwf (fun c => q (21 + (c + 2))) 12 j))) := hv
      show H[q 22]? = some (arrV cT 12 (fun j => va_rf (some (q (pi8 (10 * (2 + j)))))))
      rw [hv']
      refine congrArg some (arrV_congr (fun j hj => ?_))
      have e : pi8 (10 * (2 + j)) = 21 + (10 * j + 2) := by
        have := pi8_t (i := 2 + j) (c := 0) (by omega) (by omega)
        rw [Nat.add_zero] at this
        rw [this]
        unfold bs
        rw [if_neg (by omega), if_neg (by omega), if_pos (by omega)]; omega
      rw [e]
      unfold rwf
      rw [if_pos hj]
    · have hv' : H[q 144]? = some (arrV cM 2 (fun j => va_rf (imf (q 145) (q 156) j))) := hv
      show H[q 144]? = some (arrV cM 2 (fun j => va_rf (some (q (pi8 (164 + j))))))
      rw [hv']
      refine congrArg some (arrV_congr (fun j hj => ?_))
      rcases (by omega : j = 0 ∨ j = 1) with rfl | rfl <;> rfl
    · exact hgo _ rfl rfl
    · exact hgo _ rfl rfl
    · exact hgo _ rfl rfl
theorem cw_inj {q : Nat → Nat} (h : gInj 167 q) : gInj 167 (fun k => q (pi8 k)) := fun i j hi hj e => by
  have := h _ _ (pi8_lt ⟨i, hi⟩) (pi8_lt ⟨j, hj⟩) e
  have h2 := pi8_inj ⟨i, hi⟩ ⟨j, hj⟩ this
  exact congrArg Fin.val h2
theorem rel_start : Rel sg0 0 0 (flat ta0) (fun _ => 0) (fun _ => 0) (fun _ => 0) (fun _ => 0) := by
  refine ⟨⟨.leaf, ta0_inv⟩, rfl, ⟨0, 0, by omega, by omega, rfl, rfl, rfl, fun j hj => by omega⟩, fun i hi => ⟨?_, Or.inl rfl, fun h => absurd rfl h⟩, rfl, by decide⟩
  rfl
