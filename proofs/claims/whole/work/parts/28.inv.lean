/-! ===== the invariant; where a key belongs; free slots ===== -/
def Inv (τ : Tau) (t : Gt) : Prop := rep τ t (-1) ∧ τ 6 0 = trt t ∧ (tsl t).Nodup ∧ wv t ∧ (tks t).Pairwise (· < ·) ∧ (∀ k ∈ tks t, 0 ≤ k ∧ k ≤ 99999) ∧ (∀ s, s < 60 → s ∉ tsl t → τ 0 s = -1) ∧ (∀ s, s < 60 → 0 ≤ τ 1 s) ∧ τ 6 1 = nI (tsl t).length ∧ (tsl t).length ≤ 60
theorem csl_len : ∀ c : List Fr, c.length ≤ (csl c).length
  | [] => Nat.le_refl _
  | (d, r, s, k, o) :: c => by
    have := csl_len c
    simp only [csl, List.length_cons, List.length_append]
    omega
theorem plug_len (c : List Fr) (t : Gt) : (tsl (plug c t)).length = (tsl t).length + (csl c).length := by
  rw [(tsl_plug c t).length_eq, List.length_append]
theorem tks_len : ∀ t : Gt, (tks t).length = (tsl t).length
  | .leaf => rfl
  | .inner r s k a b => by
    simp only [tks, tsl, List.length_append, List.length_cons, tks_len a, tks_len b]
theorem pw_app {l1 l2 : List Int32} (h : (l1 ++ l2).Pairwise (· < ·)) : l1.Pairwise (· < ·) ∧ l2.Pairwise (· < ·) ∧ ∀ a ∈ l1, ∀ b ∈ l2, a < b := List.pairwise_append.mp h
theorem i32_lt_of {a b : Int32} (h : a ≤ b) (hne : a ≠ b) : a < b := by
  rw [Int32.lt_iff_toInt_lt]
  have h1 := Int32.le_iff_toInt_le.mp h
  have h2 : a.toInt ≠ b.toInt := fun e => hne (Int32.toInt_inj.mp e)
  omega
theorem i32_not_le {a b : Int32} : ¬ a ≤ b ↔ b < a := by
  rw [Int32.lt_iff_toInt_lt, Int32.le_iff_toInt_le]
  omega
theorem desc {F : Nat} {τ : Tau} {k w : Int32} : ∀ (t : Gt) (c : List Fr) (n m : Nat), rep τ t (cpar c) → (tks t).Pairwise (· < ·) → k ∉ tks t → (∀ a ∈ ckl c, a < k) → (∀ a ∈ ckr c, k < a) → c.length + (tsl t).length < 60 → (tsl t).length < n → (tsl t).length < m →
    ∃ c', plug c' .leaf = plug c t ∧ fX4_hangNew_14 F n τ k w (cpar c) (b2i (cdir c)) (trt t) (nI c.length) = fX4_hangNew_63 F τ k w (cpar c') (b2i (cdir c')) ∧ (∀ x, fX9_puts_18 F m (flat τ) k w x (cpar c) (trt t) = fX9_puts_18 F 1 (flat τ) k w x (cpar c') (-1)) ∧ (∀ a ∈ ckl c', a < k) ∧ (∀ a ∈ ckr c', k < a)
  | .leaf, c, n, m, hr, hs, hk, hl, hg, hlen, hn, hm => by
    obtain ⟨n, rfl⟩ : ∃ z, n = z + 1 := ⟨n - 1, by omega⟩
    obtain ⟨m, rfl⟩ : ∃ z, m = z + 1 := ⟨m - 1, by omega⟩
    refine ⟨c, rfl, ?_, fun x => ?_, hl, hg⟩
    · show fX4_hangNew_14 F (n + 1) τ k w (cpar c) (b2i (cdir c)) (-1) (nI c.length) = _
      rw [fX4_hangNew_14, if_neg (n60le (by omega)), if_pos rfl]
    · show fX9_puts_18 F (m + 1) (flat τ) k w x (cpar c) (-1) = _
      rw [fX9_puts_18, fX9_puts_18, if_pos rfl, if_pos rfl]
  | .inner r s q a b, c, n, m, hr, hs, hk, hl, hg, hlen, hn, hm => by
    obtain ⟨n, rfl⟩ : ∃ z, n = z + 1 := ⟨n - 1, by omega⟩
    obtain ⟨m, rfl⟩ : ∃ z, m = z + 1 := ⟨m - 1, by omega⟩
    obtain ⟨h1, h2, h3, h4, h5, h6, h7, h8⟩ := id hr
    simp only [tsl, List.length_append, List.length_cons] at hlen hn hm
    simp only [tks] at hs hk
    obtain ⟨p1, p2, p3⟩ := pw_app hs
    obtain ⟨p4, p5⟩ := List.pairwise_cons.mp p2
    have hne : q ≠ k := fun e => hk (by simp [e])
    have hka : k ∉ tks a := fun e => hk (by simp [e])
    have hkb : k ∉ tks b := fun e => hk (by simp [e])
    by_cases hq : q ≤ k
    · have hlt := i32_lt_of hq hne
      obtain ⟨c', e1, e2, e3, e4, e5⟩ := desc b ((false, r, s, q, a) :: c) n m h8 p5 hkb (by
          intro z hz
          simp only [ckl, if_false, Bool.false_eq_true] at hz
          rcases List.mem_append.mp hz with hz | hz
          · exact hl z hz
          · rcases List.mem_append.mp hz with hz | hz
            · exact Int32.lt_trans (p3 z hz q (by simp)) hlt
            · rw [List.mem_singleton.mp hz]; exact hlt) (by
          intro z hz
          simp only [ckr, if_false, Bool.false_eq_true, List.nil_append] at hz
          exact hg z hz) (by simp only [List.length_cons]; omega) (by omega) (by omega)
      refine ⟨c', e1, ?_, fun x => ?_, e4, e5⟩
      · rw [← e2]
        show fX4_hangNew_14 F (n + 1) τ k w (cpar c) (b2i (cdir c)) (nI s) (nI c.length) = fX4_hangNew_14 F n τ k w (nI s) (b2i false) (trt b) (nI (c.length + 1))
        rw [fX4_hangNew_14, if_neg (n60le (by omega)), if_neg (nI_m1 s (by omega)), cg_key h1, h2, Option.bind_some, if_pos hq]
        unfold fX4_hangNew_45
        rw [cg_child00 h1, h5, Option.bind_some, nI_1]; rfl
      · rw [← e3 x]
        show fX9_puts_18 F (m + 1) (flat τ) k w x (cpar c) (nI s) = fX9_puts_18 F m (flat τ) k w x (nI s) (trt b)
        rw [fX9_puts_18, if_neg (nI_m1 s (by omega)), mg_key h1, h2, Option.bind_some, if_pos hq, mg_child0 h1, h5, Option.bind_some]
    · have hlt := i32_not_le.mp hq
      obtain ⟨c', e1, e2, e3, e4, e5⟩ := desc a ((true, r, s, q, b) :: c) n m h7 p1 hka (by
          intro z hz
          simp only [ckl, if_true, List.append_nil] at hz
          exact hl z hz) (by
          intro z hz
          simp only [ckr, if_true] at hz
          rcases List.mem_append.mp hz with hz | hz
          · rcases List.mem_cons.mp hz with rfl | hz
            · exact hlt
            · exact Int32.lt_trans hlt (p4 z hz)
          · exact hg z hz) (by simp only [List.length_cons]; omega) (by omega) (by omega)
      refine ⟨c', e1, ?_, fun x => ?_, e4, e5⟩
      · rw [← e2]
        show fX4_hangNew_14 F (n + 1) τ k w (cpar c) (b2i (cdir c)) (nI s) (nI c.length) = fX4_hangNew_14 F n τ k w (nI s) (b2i true) (trt a) (nI (c.length + 1))
        rw [fX4_hangNew_14, if_neg (n60le (by omega)), if_neg (nI_m1 s (by omega)), cg_key h1, h2, Option.bind_some, if_neg hq]
        unfold fX4_hangNew_45
        rw [cg_child1 h1, h4, Option.bind_some, nI_1]; rfl
      · rw [← e3 x]
        show fX9_puts_18 F (m + 1) (flat τ) k w x (cpar c) (nI s) = fX9_puts_18 F m (flat τ) k w x (nI s) (trt a)
        rw [fX9_puts_18, if_neg (nI_m1 s (by omega)), mg_key h1, h2, Option.bind_some, if_neg hq, mg_child1 h1, h4, Option.bind_some]
/-- there is a free slot while there is room -/
theorem nodup_sub_len {α : Type} [DecidableEq α] : ∀ {l1 l2 : List α}, l1.Nodup → (∀ a ∈ l1, a ∈ l2) → l1.length ≤ l2.length
  | [], _, _, _ => Nat.zero_le _
  | a :: l1, l2, h, hs => by
    obtain ⟨h1, h2⟩ := List.nodup_cons.mp h
    have hm : a ∈ l2 := hs a List.mem_cons_self
    have := nodup_sub_len (l1 := l1) (l2 := l2.erase a) h2 (fun b hb => (List.mem_erase_of_ne (show b ≠ a from fun e => h1 (by rw [← e]; exact hb))).mpr (hs b (List.mem_cons_of_mem _ hb)))
    rw [List.length_erase_of_mem hm] at this
    have : 0 < l2.length := List.length_pos_of_mem hm
    simp only [List.length_cons]
    omega
theorem free_ex {l : List Nat} (hl : l.length < 60) : ∃ s, s < 60 ∧ s ∉ l := by
  apply Classical.byContradiction
  intro h
  have hall : ∀ a ∈ List.range 60, a ∈ l := fun a ha => by
    apply Classical.byContradiction
    intro hn
    exact h ⟨a, List.mem_range.mp ha, hn⟩
  have := nodup_sub_len List.nodup_range hall
  rw [List.length_range] at this
  omega
/-- the first free slot, as both find it -/
theorem free_find {F : Nat} {τ : Tau} : ∀ (j i n m : Nat), i + j = 60 → (∃ s, i ≤ s ∧ s < 60 ∧ τ 0 s = -1) → j < n → j < m → ∃ s, s < 60 ∧ τ 0 s = -1 ∧ fX4_freeSlot_2 F τ n (nI i) = some (nI s) ∧ fX9_freeOne_2 F (flat τ) m (nI i) = some (nI s)
  | 0, i, n, m, hi, hx, _, _ => by obtain ⟨s, h1, h2, _⟩ := hx; omega
  | j + 1, i, n, m, hi, hx, hn, hm => by
    obtain ⟨n, rfl⟩ : ∃ z, n = z + 1 := ⟨n - 1, by omega⟩
    obtain ⟨m, rfl⟩ : ∃ z, m = z + 1 := ⟨m - 1, by omega⟩
    have i60 : i < 60 := by omega
    by_cases h : τ 0 i = -1
    · refine ⟨i, i60, h, ?_, ?_⟩
      · rw [fX4_freeSlot_2, if_neg (n60le i60), if_neg (nI_nin i60 (by omega)), nI_cl i60, if_pos h]
      · rw [fX9_freeOne_2, mg_key i60, Option.bind_some, if_pos h]
    · obtain ⟨s, h1, h2, h3, h4⟩ := free_find (F := F) (τ := τ) j (i + 1) n m (by omega) (by
        obtain ⟨s, a, b, c⟩ := hx
        refine ⟨s, ?_, b, c⟩
        have : s ≠ i := fun e => h (e ▸ c)
        omega) (by omega) (by omega)
      refine ⟨s, h1, h2, ?_, ?_⟩
      · rw [fX4_freeSlot_2, if_neg (n60le i60), if_neg (nI_nin i60 (by omega)), nI_cl i60, if_neg h, nI_1]; exact h3
      · rw [fX9_freeOne_2, mg_key i60, Option.bind_some, if_neg h, nI_1]; exact h4
theorem begins_ok {F : Nat} (hF : 4 ≤ F) (τ : Tau) : fX9_begins F (flat τ) = some (flat (u2 (u2 (u2 τ 8 0 0) 8 1 0) 8 2 0)) := by
  obtain ⟨m, rfl⟩ : ∃ z, F = z + 4 := ⟨F - 4, by omega⟩
  unfold fX9_begins
  have e0 : ((365 : Int32) + 0).toNatClampNeg = 365 + 0 := by decide
  have e1 : ((365 : Int32) + (0 + 1)).toNatClampNeg = 365 + 1 := by decide
  have e2 : ((365 : Int32) + (0 + 1 + 1)).toNatClampNeg = 365 + 2 := by decide
  rw [fX9_begins_2, if_neg (by decide), if_neg (by decide), e0, fl_up8 (by omega), fX9_begins_2, if_neg (by decide), if_neg (by decide), e1, fl_up8 (by omega), fX9_begins_2, if_neg (by decide), if_neg (by decide), e2, fl_up8 (by omega), fX9_begins_2, if_pos (by decide)]
