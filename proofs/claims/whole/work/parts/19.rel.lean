section KRE
/-! The relation between the reference's state v and the class's state u -/
/-- thread i -/
def TR (v u : kSt) (i : Nat) : Prop :=
  (v 2 i = u (8 + i) 3 ∧ v 5 i = u (8 + i) 5 ∧ v 6 i = u (8 + i) 6 ∧ v 7 i = u (8 + i) 7 ∧ v 8 i = u (8 + i) 8 ∧ v 9 i = u (8 + i) 9 ∧ v 10 i = u (8 + i) 10 ∧ v 11 i = u (8 + i) 11 ∧ v 12 i = u (8 + i) 12 ∧ v 14 i = u (8 + i) 13 ∧ v 17 i = u (8 + i) 16 ∧ v 19 i = u (8 + i) 18) ∧
  (∀ k, k < 4 → v 4 (4 * i + k) = u (16 + i) k) ∧
  (v 1 i = 0 ↔ u (8 + i) 2 = -1) ∧
  (¬ v 1 i = 0 → v 13 i = u (8 + i) 2 ∧ v 3 i = u (8 + i) 4 ∧ (v 5 i = -1 ∨ v 6 i = 1 ∨ v 6 i = 2) ∧
    (v 13 i = 4 ∨ v 13 i = 5 → v 14 i = v 3 i ∧ ¬ v 3 i = -1 ∧ u (8 + i) 17 = (if v 18 i = 0 then 1 else 2)) ∧
    (v 13 i = 1 ∨ v 13 i = 2 ∨ v 13 i = 3 → v 15 i = u (8 + i) 14 ∧ (v 15 i = -1 ∨ v 0 0 < v 15 i)))
/-- a pager is a thread -/
def PR (v : kSt) : Prop := ∀ i, i < 8 → ¬ v 1 i = 0 → v 3 i = -1 ∨ (vp_in (v 3 i) 8 ∧ ¬ v 1 (ix (v 3 i)) = 0 ∧ ¬ ix (v 3 i) = i)
/-- thread i waits until it can send -/
def ws (v : kSt) (i : Nat) : Prop := ¬ v 1 i = 0 ∧ (v 13 i = 1 ∨ v 13 i = 3 ∨ v 13 i = 4)
/-- who came first -/
def OR (v u : kSt) : Prop := ∀ i j, i < 8 → j < 8 → ws v i → ws v j → (v 16 i ≤ v 16 j ↔ u (8 + i) 15 ≤ u (8 + j) 15)
def BD (a : Nat) (v u : kSt) : Prop := (∃ A, A ≤ a ∧ u 0 4 = nI A) ∧ (∃ B, B ≤ a ∧ v 0 1 = nI B) ∧ ∀ i, i < 8 → ws v i → u (8 + i) 15 < u 0 4 ∧ v 16 i < v 0 1
/-- the mappings, row by row: frames, levels, depths, parents; level, frame, depth, parent -/
def MR (f l d p lv fr dp pa : Nat → Int32) : Prop := ∀ k, k < 96 →
  (f k < 0 ↔ lv k = 0) ∧ (¬ lv k = 0 → f k = fr k ∧ l k = lv k ∧ d k = dp k ∧ (lv k = 1 ∨ lv k = 2) ∧ (dp k = 0 → pa k = -1) ∧ (¬ dp k = 0 → p k = pa k ∧ ∃ q, q < 96 ∧ pa k = nI q ∧ ¬ lv q = 0 ∧ dp q + 1 = dp k))
def WR (v u : kSt) : Prop := ∀ f, f < 16 → v 24 f = u 3 f
def NR (m : Nat) (v u : kSt) : Prop := ∃ k, k ≤ m ∧ v 0 0 = nI k ∧ u 0 3 = nI k
/-- a partner is none, or a number -/
def XR (v : kSt) : Prop := ∀ i, i < 8 → v 14 i = -1 ∨ 0 ≤ v 14 i
def Rel (a m : Nat) (v u : kSt) : Prop := cInv u ∧ rInv v ∧ (∀ i, i < 8 → TR v u i) ∧ PR v ∧ OR v u ∧ BD a v u ∧ MR (v 20) (v 21) (v 22) (v 23) (u 4) (u 5) (u 6) (u 7) ∧ WR v u ∧ NR m v u ∧ XR v
theorem Rel.ci {a m : Nat} {v u : kSt} (h : Rel a m v u) : cInv u := h.1
theorem Rel.ri {a m : Nat} {v u : kSt} (h : Rel a m v u) : rInv v := h.2.1
theorem Rel.tr {a m : Nat} {v u : kSt} (h : Rel a m v u) {i : Nat} (hi : i < 8) : TR v u i := h.2.2.1 i hi
theorem Rel.pr {a m : Nat} {v u : kSt} (h : Rel a m v u) : PR v := h.2.2.2.1
theorem Rel.or {a m : Nat} {v u : kSt} (h : Rel a m v u) : OR v u := h.2.2.2.2.1
theorem Rel.bd {a m : Nat} {v u : kSt} (h : Rel a m v u) : BD a v u := h.2.2.2.2.2.1
theorem Rel.mr {a m : Nat} {v u : kSt} (h : Rel a m v u) : MR (v 20) (v 21) (v 22) (v 23) (u 4) (u 5) (u 6) (u 7) := h.2.2.2.2.2.2.1
theorem Rel.wr {a m : Nat} {v u : kSt} (h : Rel a m v u) : WR v u := h.2.2.2.2.2.2.2.1
theorem Rel.nr {a m : Nat} {v u : kSt} (h : Rel a m v u) : NR m v u := h.2.2.2.2.2.2.2.2.1
theorem Rel.xr {a m : Nat} {v u : kSt} (h : Rel a m v u) : XR v := h.2.2.2.2.2.2.2.2.2
theorem BD.mono {a b : Nat} {v u : kSt} (h : BD a v u) (hab : a ≤ b) : BD b v u := by
  obtain ⟨⟨A, h1, h2⟩, ⟨B, h3, h4⟩, h5⟩ := h
  exact ⟨⟨A, by omega, h2⟩, ⟨B, by omega, h4⟩, h5⟩
theorem NR.mono {a b : Nat} {v u : kSt} (h : NR a v u) (hab : a ≤ b) : NR b v u := by
  obtain ⟨k, h1, h2⟩ := h
  exact ⟨k, by omega, h2⟩
theorem Rel.mono {a b m k : Nat} {v u : kSt} (h : Rel a m v u) (hab : a ≤ b) (hmk : m ≤ k) : Rel b k v u :=
  ⟨h.ci, h.ri, h.2.2.1, h.pr, h.or, h.bd.mono hab, h.mr, h.wr, h.nr.mono hmk, h.xr⟩
/-- one thread becomes another: what is to be shown; its neighbours, the mappings and words are as they were -/
theorem Rel.at {a m b : Nat} {v u v' u' : kSt} (h : Rel a m v u) (i : Nat) (hi : i < 8) (hci : cInv u') (hri : rInv v')
    (hv : ∀ c j, j ≠ i → c ≠ 0 → c ≠ 4 → c < 20 → v' c j = v c j) (hv4 : ∀ j k, j < 8 → j ≠ i → k < 4 → v' 4 (4 * j + k) = v 4 (4 * j + k)) (hvn : v' 0 0 = v 0 0) (hal : v' 1 i = v 1 i) (hpg : v' 3 i = v 3 i ∨ v' 3 i = -1)
    (hu : ∀ j, j < 8 → j ≠ i → u' (8 + j) = u (8 + j)) (hu4 : ∀ j, j < 8 → j ≠ i → u' (16 + j) = u (16 + j)) (hun : u' 0 3 = u 0 3)
    (hT : TR v' u' i) (hO : OR v' u') (hB : BD b v' u')
    (h20 : v' 20 = v 20) (h21 : v' 21 = v 21) (h22 : v' 22 = v 22) (h23 : v' 23 = v 23) (g4 : u' 4 = u 4) (g5 : u' 5 = u 5) (g6 : u' 6 = u 6) (g7 : u' 7 = u 7) (hW : WR v' u') (hX : v' 14 i = -1 ∨ 0 ≤ v' 14 i) : Rel b m v' u' := by
  refine ⟨hci, hri, fun j hj => ?_, fun j hj => ?_, hO, hB, ?_, hW, ?_, fun j hj => ?_⟩
  · by_cases hji : j = i
    · subst hji; exact hT
    · have := h.tr hj
      unfold TR at this ⊢
      rw [hu j hj hji, hu4 j hj hji, hvn, hv 1 j hji (by decide) (by decide) (by decide), hv 2 j hji (by decide) (by decide) (by decide), hv 3 j hji (by decide) (by decide) (by decide), hv 5 j hji (by decide) (by decide) (by decide), hv 6 j hji (by decide) (by decide) (by decide), hv 7 j hji (by decide) (by decide) (by decide), hv 8 j hji (by decide) (by decide) (by decide), hv 9 j hji (by decide) (by decide) (by decide), hv 10 j hji (by decide) (by decide) (by decide), hv 11 j hji (by decide) (by decide) (by decide), hv 12 j hji (by decide) (by decide) (by decide), hv 13 j hji (by decide) (by decide) (by decide), hv 14 j hji (by decide) (by decide) (by decide), hv 15 j hji (by decide) (by decide) (by decide), hv 17 j hji (by decide) (by decide) (by decide), hv 18 j hji (by decide) (by decide) (by decide), hv 19 j hji (by decide) (by decide) (by decide)]
      exact ⟨this.1, fun k hk => by rw [hv4 j k hj hji hk]; exact this.2.1 k hk, this.2.2⟩
  · have hp1 : ∀ j, v' 1 j = v 1 j := by
      intro j
      by_cases hji : j = i
      · subst hji; exact hal
      · exact hv 1 j hji (by decide) (by decide) (by decide)
    by_cases hji : j = i
    · subst hji
      rcases hpg with e | e
      · rw [e, hp1, hp1]
        exact h.pr j hj
      · exact fun _ => Or.inl e
    · rw [hv 3 j hji (by decide) (by decide) (by decide), hp1, hp1]
      exact h.pr j hj
  · rw [h20, h21, h22, h23, g4, g5, g6, g7]
    exact h.mr
  · obtain ⟨k, h1, h2, h3⟩ := h.nr
    exact ⟨k, h1, by rw [hvn]; exact h2, by rw [hun]; exact h3⟩
  · by_cases hji : j = i
    · subst hji; exact hX
    · rw [hv 14 j hji (by decide) (by decide) (by decide)]
      exact h.xr j hj
end KRE
