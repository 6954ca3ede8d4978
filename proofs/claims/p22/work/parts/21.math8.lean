/-! the breadth first search: the places reached in their order, how far, from where -/
abbrev BS : Type := List Int × (Int → Int) × (Int → Int)
def bs0 (s : Int) : BS := ([s], fun z => if z = s then 0 else -1, fun _ => s)
def bsR (S : BS) (q f : Int) : BS := if q ≠ -1 ∧ S.2.1 q = -1 then (S.1 ++ [q], fun z => if z = q then S.2.1 f + 1 else S.2.1 z, fun z => if z = q then f else S.2.2 z) else S
def bsK (nb : Int → Int → Int) (S : BS) (f : Int) : Nat → BS
  | 0 => S
  | d + 1 => bsR (bsK nb S f d) (nb f d) f
def bsAt (S : BS) (i : Nat) : Int := S.1.getD i 0
def bsG (nb : Int → Int → Int) : Nat → Nat → BS → BS
  | 0, _, S => S
  | n + 1, i, S => if i < S.1.length then bsG nb n (i + 1) (bsK nb S (bsAt S i) 4) else S
def bsF (nb : Int → Int → Int) (q : Int) : Nat → Nat → BS → Int × BS
  | 0, _, S => (-1, S)
  | n + 1, i, S => if i < S.1.length then (if bsAt S i / 343 = q then (bsAt S i, S) else bsF nb q n (i + 1) (bsK nb S (bsAt S i) 4)) else (-1, S)
/-- what holds all the while: at place i, its first d directions done -/
def BI (nb : Int → Int → Int) (s : Int) (G : Int → Prop) (S : BS) (i : Nat) (d : Int) : Prop :=
  S.1.Nodup ∧ S.1[0]? = some s ∧ (∀ z, (S.2.1 z = -1 ∧ z ∉ S.1) ∨ (0 ≤ S.2.1 z ∧ z ∈ S.1)) ∧ (∀ z ∈ S.1, G z) ∧ (S.2.1 s = 0 ∧ S.2.2 s = s) ∧
  (∀ z ∈ S.1, z ≠ s → S.2.2 z ∈ S.1 ∧ S.2.1 z = S.2.1 (S.2.2 z) + 1 ∧ ∃ e : Int, 0 ≤ e ∧ e ≤ 3 ∧ nb (S.2.2 z) e = z) ∧
  (∀ j k : Nat, j ≤ k → ∀ y z, S.1[j]? = some y → S.1[k]? = some z → S.2.1 y ≤ S.2.1 z) ∧
  (∀ y, S.1[i]? = some y → ∀ z ∈ S.1, S.2.1 z ≤ S.2.1 y + 1) ∧
  (∀ (j : Nat) (y : Int), S.1[j]? = some y → ∀ e : Int, 0 ≤ e → e ≤ 3 → (j < i ∨ (j = i ∧ e < d)) → nb y e ≠ -1 → nb y e ∈ S.1 ∧ S.2.1 (nb y e) ≤ S.2.1 y + 1)
theorem BI_0 {nb : Int → Int → Int} {s : Int} {G : Int → Prop} (hs : G s) : BI nb s G (bs0 s) 0 0 := by
  have hm : ∀ z, z ∈ (bs0 s).1 ↔ z = s := fun z => by show z ∈ [s] ↔ z = s; exact List.mem_singleton
  have h0 : ∀ (j : Nat) (y : Int), (bs0 s).1[j]? = some y → j = 0 ∧ y = s := by
    intro j y h
    have h : [s][j]? = some y := h
    cases j with
    | zero => exact ⟨rfl, by simpa using h.symm⟩
    | succ j => simp at h
  have hD : ∀ z, (bs0 s).2.1 z = if z = s then 0 else -1 := fun z => rfl
  refine ⟨by show [s].Nodup; simp, rfl, fun z => ?_, fun z hz => by rw [(hm z).mp hz]; exact hs, ⟨by rw [hD, if_pos rfl], rfl⟩, fun z hz hn => absurd ((hm z).mp hz) hn, ?_, ?_, ?_⟩
  · by_cases h : z = s
    · right; rw [hD, if_pos h, hm]; exact ⟨by omega, h⟩
    · left; rw [hD, if_neg h, hm]; exact ⟨rfl, h⟩
  · intro j k _ y z h1 h2
    rw [(h0 j y h1).2, (h0 k z h2).2]
    exact Int.le_refl _
  · intro y h z hz
    rw [(h0 0 y h).2, (hm z).mp hz]
    omega
  · intro j y h e _ _ hj
    have := (h0 j y h).1
    omega
theorem bsR_no {S : BS} {q f : Int} (h : ¬ (q ≠ -1 ∧ S.2.1 q = -1)) : bsR S q f = S := if_neg h
theorem BI_d {nb : Int → Int → Int} {s : Int} {G : Int → Prop} {S : BS} {i : Nat} {d f : Int} (h : BI nb s G S i d) (hf : S.1[i]? = some f) (hd0 : 0 ≤ d) (hd : d ≤ 3) (hG : G f → nb f d ≠ -1 → G (nb f d)) : BI nb s G (bsR S (nb f d) f) i (d + 1) := by
  obtain ⟨h1, h2, h3, h4, h5, h6, h7, h8, h9⟩ := id h
  have hfm : f ∈ S.1 := List.mem_of_getElem? hf
  by_cases hc : nb f d ≠ -1 ∧ S.2.1 (nb f d) = -1
  · have e : bsR S (nb f d) f = (S.1 ++ [nb f d], fun z => if z = nb f d then S.2.1 f + 1 else S.2.1 z, fun z => if z = nb f d then f else S.2.2 z) := if_pos hc
    have hq : nb f d ∉ S.1 := by
      rcases h3 (nb f d) with g | g
      · exact g.2
      · omega
    have hD : ∀ z, (bsR S (nb f d) f).2.1 z = if z = nb f d then S.2.1 f + 1 else S.2.1 z := fun z => by rw [e]
    have hPa : ∀ z, (bsR S (nb f d) f).2.2 z = if z = nb f d then f else S.2.2 z := fun z => by rw [e]
    have hL : (bsR S (nb f d) f).1 = S.1 ++ [nb f d] := by rw [e]
    have hm : ∀ z, z ∈ (bsR S (nb f d) f).1 ↔ z ∈ S.1 ∨ z = nb f d := fun z => by rw [hL, List.mem_append, List.mem_singleton]
    have hDo : ∀ z ∈ S.1, (bsR S (nb f d) f).2.1 z = S.2.1 z := fun z hz => by rw [hD, if_neg (show ¬ z = nb f d from fun ee => hq (ee ▸ hz))]
    have hDq : (bsR S (nb f d) f).2.1 (nb f d) = S.2.1 f + 1 := by rw [hD, if_pos rfl]
    have hs : s ∈ S.1 := List.mem_of_getElem? h2
    have hfD : 0 ≤ S.2.1 f := by
      rcases h3 f with g | g
      · exact absurd hfm g.2
      · exact g.1
    have hat : ∀ (j : Nat) (y : Int), (bsR S (nb f d) f).1[j]? = some y → (S.1[j]? = some y) ∨ (j = S.1.length ∧ y = nb f d) := by
      intro j y hj
      rw [hL] at hj
      by_cases hjl : j < S.1.length
      · rw [List.getElem?_append_left hjl] at hj
        exact Or.inl hj
      · rw [List.getElem?_append_right (by omega)] at hj
        have hz : j - S.1.length < 1 := (List.getElem?_eq_some_iff.mp hj).1
        rw [show j - S.1.length = 0 by omega] at hj
        right
        exact ⟨by omega, by simpa using hj.symm⟩
    have hil : i < S.1.length := (List.getElem?_eq_some_iff.mp hf).1
    refine ⟨?_, ?_, ?_, ?_, ?_, ?_, ?_, ?_, ?_⟩
    · rw [hL, List.nodup_append]
      exact ⟨h1, by simp, fun a ha b hb => by rw [List.mem_singleton.mp hb]; exact fun ee => hq (ee ▸ ha)⟩
    · rw [hL, List.getElem?_append_left (by omega)]
      exact h2
    · intro z
      by_cases hz : z = nb f d
      · right; rw [hD, if_pos hz]; exact ⟨by omega, (hm z).mpr (Or.inr hz)⟩
      · rcases h3 z with g | g
        · left; rw [hD, if_neg hz]
          exact ⟨g.1, fun hh => ((hm z).mp hh).elim g.2 hz⟩
        · right; rw [hD, if_neg hz]
          exact ⟨g.1, (hm z).mpr (Or.inl g.2)⟩
    · intro z hz
      rcases (hm z).mp hz with g | g
      · exact h4 z g
      · rw [g]; exact hG (h4 f hfm) hc.1
    · refine ⟨by rw [hDo s hs]; exact h5.1, ?_⟩
      rw [hPa, if_neg (show ¬ s = nb f d from fun ee => hq (ee ▸ hs))]
      exact h5.2
    · intro z hz hzs
      by_cases hzq : z = nb f d
      · rw [hPa, if_pos hzq, hDo f hfm, hzq, hDq]
        exact ⟨(hm f).mpr (Or.inl hfm), rfl, d, hd0, hd, rfl⟩
      · have hz' : z ∈ S.1 := ((hm z).mp hz).elim id (fun g => absurd g hzq)
        obtain ⟨g1, g2, g3⟩ := h6 z hz' hzs
        rw [hPa, if_neg hzq, hDo z hz', hDo _ g1]
        exact ⟨(hm _).mpr (Or.inl g1), g2, g3⟩
    · intro j k hjk y z hy hz
      rcases hat k z hz with gz | ⟨gz1, gz2⟩
      · rcases hat j y hy with gy | ⟨gy1, gy2⟩
        · rw [hDo y (List.mem_of_getElem? gy), hDo z (List.mem_of_getElem? gz)]
          exact h7 j k hjk y z gy gz
        · have := (List.getElem?_eq_some_iff.mp gz).1
          omega
      · rw [gz2, hDq]
        rcases hat j y hy with gy | ⟨gy1, gy2⟩
        · rw [hDo y (List.mem_of_getElem? gy)]
          exact h8 f hf y (List.mem_of_getElem? gy)
        · rw [gy2, hDq]
          exact Int.le_refl _
    · intro y hy z hz
      have hy' : y = f := by
        rcases hat i y hy with g | ⟨g1, -⟩
        · exact Option.some.inj (g.symm.trans hf)
        · omega
      rw [hy', hDo f hfm]
      rcases (hm z).mp hz with g | g
      · rw [hDo z g]; exact h8 f hf z g
      · rw [g, hDq]; exact Int.le_refl _
    · intro j y hy ee he0 he3 hj hne
      rcases hat j y hy with g | ⟨g1, -⟩
      · have hym := List.mem_of_getElem? g
        by_cases hnew : j = i ∧ ee = d
        · have hyf : y = f := by
            rw [hnew.1] at g
            exact Option.some.inj (g.symm.trans hf)
          rw [hyf, hnew.2, hDq, hDo f hfm]
          exact ⟨(hm _).mpr (Or.inr rfl), Int.le_refl _⟩
        · obtain ⟨k1, k2⟩ := h9 j y g ee he0 he3 (by omega) hne
          rw [hDo _ k1, hDo y hym]
          exact ⟨(hm _).mpr (Or.inl k1), k2⟩
      · omega
  · rw [bsR_no hc]
    refine ⟨h1, h2, h3, h4, h5, h6, h7, h8, ?_⟩
    intro j y hy ee he0 he3 hj hne
    by_cases hnew : j = i ∧ ee = d
    · have hyf : y = f := by
        rw [hnew.1] at hy
        exact Option.some.inj (hy.symm.trans hf)
      rw [hyf, hnew.2] at hne ⊢
      have hmem : nb f d ∈ S.1 := by
        rcases h3 (nb f d) with g | g
        · exact absurd ⟨hne, g.1⟩ hc
        · exact g.2
      exact ⟨hmem, h8 f hf _ hmem⟩
    · exact h9 j y hy ee he0 he3 (by omega) hne
theorem BI_i {nb : Int → Int → Int} {s : Int} {G : Int → Prop} {S : BS} {i : Nat} {d : Int} (h : BI nb s G S i d) (hd : 3 < d) : BI nb s G S (i + 1) 0 := by
  obtain ⟨h1, h2, h3, h4, h5, h6, h7, h8, h9⟩ := h
  refine ⟨h1, h2, h3, h4, h5, h6, h7, ?_, ?_⟩
  · intro y hy z hz
    have hl := (List.getElem?_eq_some_iff.mp hy).1
    have hi : S.1[i]? = some S.1[i] := List.getElem?_eq_getElem (by omega)
    have k1 := h8 _ hi z hz
    have k2 := h7 i (i + 1) (by omega) _ y hi hy
    omega
  · intro j y hy e he0 he3 hj hne
    exact h9 j y hy e he0 he3 (by omega) hne
theorem bsR_len (S : BS) (q f : Int) : S.1.length ≤ (bsR S q f).1.length ∧ (∀ (j : Nat) (y : Int), S.1[j]? = some y → (bsR S q f).1[j]? = some y) := by
  unfold bsR
  split
  · refine ⟨by simp, fun j y h => ?_⟩
    show (S.1 ++ [q])[j]? = some y
    rw [List.getElem?_append_left (List.getElem?_eq_some_iff.mp h).1]
    exact h
  · exact ⟨Nat.le_refl _, fun _ _ h => h⟩
theorem bsK_at (nb : Int → Int → Int) (S : BS) (f : Int) (d : Nat) : ∀ (j : Nat) (y : Int), S.1[j]? = some y → (bsK nb S f d).1[j]? = some y := by
  induction d with
  | zero => exact fun _ _ h => h
  | succ d ih => exact fun j y h => (bsR_len _ _ _).2 j y (ih j y h)
theorem bsAt_some {S : BS} {i : Nat} (h : i < S.1.length) : S.1[i]? = some (bsAt S i) := by
  unfold bsAt
  rw [List.getD_eq_getElem?_getD, List.getElem?_eq_getElem h]
  rfl
theorem BI_K {nb : Int → Int → Int} {s : Int} {G : Int → Prop} {S : BS} {i : Nat} {f : Int} (h : BI nb s G S i 0) (hf : S.1[i]? = some f) (hG : ∀ d : Int, 0 ≤ d → d ≤ 3 → G f → nb f d ≠ -1 → G (nb f d)) : ∀ d : Nat, d ≤ 4 → BI nb s G (bsK nb S f d) i d := by
  intro d
  induction d with
  | zero => intro _; exact h
  | succ d ih =>
    intro hd
    have h2 := BI_d (ih (by omega)) (bsK_at nb S f d i f hf) (by omega) (by omega) (hG d (by omega) (by omega))
    rw [show ((d + 1 : Nat) : Int) = (d : Int) + 1 by omega]
    exact h2
/-- the whole search -/
def BF (nb : Int → Int → Int) (s : Int) : BS := bsG nb 16807 0 (bs0 s)
theorem BI_G {nb : Int → Int → Int} {s : Int} {G : Int → Prop} (hG : ∀ f d : Int, 0 ≤ d → d ≤ 3 → G f → nb f d ≠ -1 → G (nb f d)) : ∀ (n i : Nat) (S : BS), BI nb s G S i 0 → ∃ k, BI nb s G (bsG nb n i S) k 0 ∧ ((bsG nb n i S).1.length ≤ k ∨ k = i + n) := by
  intro n
  induction n with
  | zero => intro i S h; exact ⟨i, h, Or.inr rfl⟩
  | succ n ih =>
    intro i S h
    show ∃ k, BI nb s G (if i < S.1.length then bsG nb n (i + 1) (bsK nb S (bsAt S i) 4) else S) k 0 ∧ ((if i < S.1.length then bsG nb n (i + 1) (bsK nb S (bsAt S i) 4) else S).1.length ≤ k ∨ k = i + (n + 1))
    by_cases hl : i < S.1.length
    · rw [if_pos hl]
      have h2 := BI_i (BI_K h (bsAt_some hl) (fun d h0 h3 => hG _ d h0 h3) 4 (Nat.le_refl _)) (by decide)
      obtain ⟨k, k1, k2⟩ := ih (i + 1) _ h2
      exact ⟨k, k1, by omega⟩
    · rw [if_neg hl]
      exact ⟨i, h, Or.inl (by omega)⟩
/-- .. at its end: every step from a place reached leads to one, at most one farther -/
theorem BF_end {nb : Int → Int → Int} {s : Int} {G : Int → Prop} (hG : ∀ f d : Int, 0 ≤ d → d ≤ 3 → G f → nb f d ≠ -1 → G (nb f d)) (hs : G s) (hlen : ∀ l : List Int, l.Nodup → (∀ z ∈ l, G z) → l.length ≤ 16807) : ∃ k, BI nb s G (BF nb s) k 0 ∧ (BF nb s).1.length ≤ k := by
  obtain ⟨k, k1, k2⟩ := BI_G hG 16807 0 (bs0 s) (BI_0 hs)
  refine ⟨k, k1, ?_⟩
  have := hlen (BF nb s).1 k1.1 k1.2.2.2.1
  unfold BF at this ⊢
  omega
theorem BF_close {nb : Int → Int → Int} {s : Int} {G : Int → Prop} {S : BS} {k : Nat} (h : BI nb s G S k 0) (hk : S.1.length ≤ k) {y e : Int} (hy : y ∈ S.1) (he0 : 0 ≤ e) (he : e ≤ 3) (hn : nb y e ≠ -1) : nb y e ∈ S.1 ∧ S.2.1 (nb y e) ≤ S.2.1 y + 1 := by
  obtain ⟨j, hj⟩ := List.getElem?_of_mem hy
  have := (List.getElem?_eq_some_iff.mp hj).1
  exact h.2.2.2.2.2.2.2.2 j y hj e he0 he (Or.inl (by omega)) hn
