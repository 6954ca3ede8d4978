/-! for the law's own questions -/
section ZE
variable {p : Program} {l : Launch} {e : Env} {R : Room} {s : State} {m : MethodId} {args : Array Value} {below : List Frame} {meth : Method} {c : Code} {H : Heap} {locs : List Loc} {cells slots : Nat} {Q : State → Prop}
variable {cc : ByteArray} {pc : Nat} {ls : Array Slot} {rest : List Value}
theorem zv_icmpneE (hexec : p.tables.exec = Jvm.exec) (hb : c.code = cc) {x y : Int} {off : Int} {tgt : Nat} (hdg : decode cc pc = .ok (.if_icmp .ne off, 3)) (ht : (pc : Int) + off = (tgt : Int)) (hxy : x = y)
    (kf : W p l e R s m args below meth c H locs cells slots Q (F0 m (pc + 3) ls rest)) : W p l e R s m args below meth c H locs cells slots Q (F0 m pc ls (.int (iI y) :: .int (iI x) :: rest)) :=
  lv_icmp_ne hexec hb hdg ht (fun h => absurd (by rw [hxy]) h) (fun _ => kf)
end ZE
theorem ltZ_b (w k : Int) : -1 ≤ ltZ w k ∧ ltZ w k ≤ 5 := by unfold ltZ; omega
theorem CR_b {C R : Int} (hC : 3 ≤ C ∧ C ≤ 7) (hR : 3 ≤ R ∧ R ≤ 7) : 9 ≤ C * R ∧ C * R ≤ 49 := by
  rcases (show C = 3 ∨ C = 4 ∨ C = 5 ∨ C = 6 ∨ C = 7 by omega) with rfl | rfl | rfl | rfl | rfl <;> omega
theorem sq_nx {L : Int → Int} {lim C q x : Int} {j : Nat} (hb : ∀ z, -1 ≤ L z) (hq : q = (j : Int) % C * 7 + (j : Int) / C) (hx : (x = 1 ∧ 0 < wdN L lim q 343) ∨ (x = 0 ∧ ¬ 0 < wdN L lim q 343)) : sqL L lim C j + x = sqL L lim C (j + 1) := by
  show sqL L lim C j + x = sqL L lim C j + inQ L lim ((j : Int) % C * 7 + (j : Int) / C)
  rw [← hq]
  have hw := wd_ls (lim := lim) (q := q) hb
  have hl : -1 ≤ lsZ L q := by
    rcases ls_at (L := L) q 343 with h | ⟨w, -, h, -⟩
    · unfold lsZ; omega
    · have := hb (q * 343 + w)
      unfold lsZ
      omega
  unfold inQ
  split <;> omega
theorem cb_base {bs : Int} (h0 : 0 ≤ bs) (h1 : bs < 49) : 0 ≤ cbZ (bs * 343) ∧ cbZ (bs * 343) < 100 ∧ cbZ (bs * 343) / 10 = bs / 7 ∧ cbZ (bs * 343) % 10 = bs % 7 := by
  unfold cbZ
  rw [show bs * 343 / 343 = bs by omega]
  omega
theorem ds_st {C R lim np bs P sm d r P2 sm2 np2 bs2 : Int} {N N2 : Int → Int} {gn : Nat → Int} (hF : FlOK C R np N gn) (hb : GdZ C R N (bs * 343)) (hP : 0 ≤ LZ C R N bs P) (hPl : LZ C R N bs P ≤ lim) (hd0 : 0 ≤ d) (hd3 : d ≤ 3) (e : (r, np2, bs2, P2, sm2, N2) = dsZ C R lim np bs P sm N 0 d 0) :
    np = np2 ∧ bs = bs2 ∧ N = N2 ∧ ((r = -99999 ∧ P = P2 ∧ sm = sm2) ∨ ((0 ≤ LZ C R N bs P2 ∧ LZ C R N bs P2 ≤ lim) ∧ r = LZ C R N bs P2 ∧ (LZ C R N bs P2 = LZ C R N bs P + 1 ∨ LZ C R N bs P2 = LZ C R N bs P - 1) ∧ GdZ C R N P2 ∧ astZ C R N (LZ C R N bs) lim P2 ((d + 2) % 4) = P ∧ sm2 = sm + 1)) := by
  have hg := LZ_gd hF hb hP
  unfold dsZ at e
  rw [if_pos rfl] at e
  split at e
  · rename_i hc
    obtain ⟨rfl, rfl, rfl, rfl, rfl, rfl⟩ := tup6 e
    obtain ⟨e1, e2, e3, e4⟩ := ast_ne hc.2
    have h1 := LZ_st hF hb hP hd0 hd3 e2
    have h2 := aftZ_back hF hg hd0 hd3 e2
    have hr : (d + 2) % 4 = rvZ d := by unfold rvZ; (repeat' split) <;> omega
    rw [← e1] at h1 h2 e4
    refine ⟨rfl, rfl, rfl, Or.inr ⟨⟨h1.1, e4⟩, rfl, h1.2, h2.1, ?_, rfl⟩⟩
    rw [hr]
    unfold astZ
    rw [show aftZ C R N2 (if LZ C R N2 bs2 (aftZ C R N2 P d) ≠ -1 ∧ LZ C R N2 bs2 (aftZ C R N2 P d) ≤ lim then aftZ C R N2 P d else -1) (rvZ d) = P from h2.2, if_pos ⟨by omega, hPl⟩]
  · obtain ⟨rfl, rfl, rfl, rfl, rfl, rfl⟩ := tup6 e
    exact ⟨rfl, rfl, rfl, Or.inl ⟨rfl, rfl, rfl⟩⟩
