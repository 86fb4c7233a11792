/-! level 2: call by call -/
theorem zle.rf {v : zV} : zle v v := ⟨Nat.le_refl _, fun _ _ => rfl⟩
theorem zle.tr {a b c : zV} (h1 : zle a b) (h2 : zle b c) : zle a c := ⟨Nat.le_trans h1.1 h2.1, fun p hp => (h2.2 p (Nat.lt_of_lt_of_le hp h1.1)).trans (h1.2 p hp)⟩
theorem zput_le {v : zV} {w p x : Nat} (hw : w ≤ 6) : zle v (zput v w p x) ∧ ((zput v w p x).ru = v.ru) := by
  unfold zput
  split
  · refine ⟨⟨?_, fun q hq => rfl⟩, ?_⟩
    · show v.n ≤ (if 4 = w then x else v.n)
      rw [if_neg (by omega)]
      exact Nat.le_refl _
    · show (if 3 = w then x else v.ru) = v.ru
      rw [if_neg (by omega)]
  · refine ⟨⟨Nat.le_refl _, fun q hq => ?_⟩, rfl⟩
    show (if 0 = w - 2 ∧ q = p then x else v.kd q) = v.kd q
    rw [if_neg (by omega)]
theorem zjoin_le2 {v : zV} {a b c : Nat} : zle v (zjoin v a b c) ∧ (zjoin v a b c).ru = v.ru := by
  refine ⟨⟨?_, fun q hq => ?_⟩, rfl⟩
  · rw [zjoin_n]; exact Nat.le_succ _
  · rw [zjoin_kd, if_neg (by omega)]
theorem zclerk_le {v : zV} {a b c : Int32} : zle v (zclerk v a b c).2 ∧ (zclerk v a b c).2.ru = v.ru := by
  unfold zclerk
  split
  · exact zjoin_le2
  · exact ⟨zle.rf, rfl⟩
theorem zclerk_B2 {v : zV} (hB : zB v) {a b c : Int32} (h : zcok a b c) : zB (zclerk v a b c).2 := by
  obtain ⟨h1, h2, h3⟩ := h
  unfold zclerk
  split
  · exact zjoin_B hB (by assumption) (by omega) (by omega) (by omega)
  · exact hB
theorem zck1_le {v : zV} {a b c : Int32} : zle v (zck1 v a b c).2 ∧ (zck1 v a b c).2.ru = v.ru := by
  unfold zck1
  split
  · exact zclerk_le
  · exact ⟨zle.rf, rfl⟩
theorem zcks_le {z : zT} {s : Nat} {x : Int32} : ∀ j k c (v : zV), zle v (zcks z s x j k c v).2 ∧ (zcks z s x j k c v).2.ru = v.ru := by
  intro j
  induction j with
  | zero => intro k c v; exact ⟨zle.rf, rfl⟩
  | succ j ih =>
    intro k c v
    rw [zcks]
    split
    · obtain ⟨a1, a2⟩ := zck1_le (v := v) (a := z.2.2 s (x.toInt.toNat + 3 * k)) (b := z.2.2 s (x.toInt.toNat + 3 * k + 1)) (c := z.2.2 s (x.toInt.toNat + 3 * k + 2))
      obtain ⟨b1, b2⟩ := ih (k + 1) (if (zck1 v (z.2.2 s (x.toInt.toNat + 3 * k)) (z.2.2 s (x.toInt.toNat + 3 * k + 1)) (z.2.2 s (x.toInt.toNat + 3 * k + 2))).1 = true then c + 1 else c) (zck1 v (z.2.2 s (x.toInt.toNat + 3 * k)) (z.2.2 s (x.toInt.toNat + 3 * k + 1)) (z.2.2 s (x.toInt.toNat + 3 * k + 2))).2
      exact ⟨a1.tr b1, b2.trans a2⟩
    · exact ⟨zle.rf, rfl⟩
theorem zclks_le {v : zV} {z : zT} {a1 a2 a3 a4 : Int32} : zle v (zclks v z a1 a2 a3 a4).2 ∧ (zclks v z a1 a2 a3 a4).2.ru = v.ru := by
  unfold zclks
  split
  · split
    · exact ⟨zle.rf, rfl⟩
    · split
      · exact zcks_le _ _ _ _
      · exact ⟨zle.rf, rfl⟩
  · exact ⟨zle.rf, rfl⟩
theorem zbook_le {T : zT3} {v : zV} {a1 a2 : Int32} : zle v (zbook T v a1 a2).2 ∧ (zbook T v a1 a2).2.ru = v.ru := by
  unfold zbook
  split
  · split
    · exact ⟨⟨Nat.le_refl _, fun q hq => rfl⟩, rfl⟩
    · exact ⟨zle.rf, rfl⟩
  · exact ⟨zle.rf, rfl⟩
theorem zyear_le {T : zT3} {v : zV} : zle v (zyear T v).2 ∧ (zyear T v).2.ru = v.ru := by
  unfold zyear
  split
  · exact ⟨zle.rf, rfl⟩
  · exact ⟨⟨Nat.le_refl _, fun q hq => rfl⟩, rfl⟩
theorem zsettle_le {T : zT3} {v : zV} : zle v (zsettle T v).2 ∧ (zsettle T v).2.ru = v.ru := ⟨⟨Nat.le_refl _, fun q hq => rfl⟩, rfl⟩
theorem f18 {r c : Nat} (h : (fun (r _ : Nat) => z18 r = true) r c) : 1 ≤ r ∧ r ≤ 8 := by
  have h2 : z18 r = true := h
  unfold z18 at h2
  simpa using h2
theorem f65 {r c : Nat} (h : (fun (r _ : Nat) => z65 r = true) r c) : 65 ≤ r ∧ r ≤ 72 := by
  have h2 : z65 r = true := h
  unfold z65 at h2
  simpa using h2
theorem f89 {r c : Nat} (h : (fun (r _ : Nat) => z89 r = true) r c) : 89 ≤ r ∧ r ≤ 92 := by
  have h2 : z89 r = true := h
  unfold z89 at h2
  simpa using h2
theorem sm_told (a1 a2 : Int32) : zSame (nb_told a1 a2) (md_told a1 a2) := by
  intro M h
  obtain ⟨v, cnt, Ts, f, t, z, k, hg, hC, hM⟩ := h
  exact sm_mk hM hg (ok_mono (toldC_ok hC.1 hg.1 (hC.2.1.2 _ hg.2.2.2.1).1 (hC.2.1.2 _ hg.2.2.2.1).2 a1 a2) (fun y hy => ⟨hy.1, hC.sc hg.2.2.1 hy.2.1 (fun r c u => by have u2 : r = 35 ∨ r = 36 := u; unfold zSc; omega), hy.2.1.wk (fun r c u => by have u2 : r = 35 ∨ r = 36 := u; show r < 73; omega)⟩)) (fun M2 h2 => ok_mono (toldM_ok h2.1 hg.1 (h2.2.1.2 _ hg.2.2.2.1) a1 a2) (fun y hy => ⟨hy.1, h2.sc hy.2.1 (fun r c u => by have u2 : r = 73 ∧ 12 ≤ c ∧ c ≤ 26 := u; unfold zSd; omega), hy.2.1.wk (fun r c u => by have u2 : r = 73 ∧ 12 ≤ c ∧ c ≤ 26 := u; show 73 ≤ r; omega)⟩))
theorem sm_plan (a1 : Int32) : zSame (nb_plan a1) (md_plan a1) := by
  intro M h
  obtain ⟨v, cnt, Ts, f, t, z, k, hg, hC, hM⟩ := h
  exact sm_mk hM hg (ok_mono (planC_ok hC.1 hg.1 (hC.2.1.2 _ hg.2.2.2.1).1 (hC.2.1.2 _ hg.2.2.2.1).2 a1) (fun y hy => ⟨hy.1, hC.sc hg.2.2.1 hy.2 (fun r c u => by have u2 : r = 35 ∨ r = 36 ∨ (56 ≤ r ∧ r ≤ 61) := u; unfold zSc; omega), hy.2.wk (fun r c u => by have u2 : r = 35 ∨ r = 36 ∨ (56 ≤ r ∧ r ≤ 61) := u; show r < 73; omega)⟩)) (fun M2 h2 => ok_mono (planM_ok h2.1 hg.1 (h2.2.1.2 _ hg.2.2.2.1) a1) (fun y hy => ⟨hy.1, h2.sc hy.2 (fun r c u => by have u2 : (81 ≤ r ∧ r ≤ 84) ∨ (r = 73 ∧ 12 ≤ c ∧ c ≤ 26) := u; unfold zSd; omega), hy.2.wk (fun r c u => by have u2 : (81 ≤ r ∧ r ≤ 84) ∨ (r = 73 ∧ 12 ≤ c ∧ c ≤ 26) := u; show 73 ≤ r; omega)⟩))
theorem sm_bars (a1 a2 : Int32) : zSame (nb_bars a1 a2) (md_bars a1 a2) := by
  intro M h
  obtain ⟨v, cnt, Ts, f, t, z, k, hg, hC, hM⟩ := h
  exact sm_mk hM hg (ok_mono (barsC_ok hC.1 hg.1 (hC.2.1.2 _ hg.2.2.2.1).1 (hC.2.1.2 _ hg.2.2.2.1).2 a1 a2) (fun y hy => ⟨hy.1, hC.sc hg.2.2.1 hy.2 (fun r c u => by have u2 : r = 35 ∨ r = 36 ∨ (56 ≤ r ∧ r ≤ 61) := u; unfold zSc; omega), hy.2.wk (fun r c u => by have u2 : r = 35 ∨ r = 36 ∨ (56 ≤ r ∧ r ≤ 61) := u; show r < 73; omega)⟩)) (fun M2 h2 => ok_mono (barsM_ok h2.1 hg.1 (h2.2.1.2 _ hg.2.2.2.1) a1 a2) (fun y hy => ⟨hy.1, h2.sc hy.2 (fun r c u => by have u2 : (81 ≤ r ∧ r ≤ 84) ∨ (r = 73 ∧ 12 ≤ c ∧ c ≤ 26) := u; unfold zSd; omega), hy.2.wk (fun r c u => by have u2 : (81 ≤ r ∧ r ≤ 84) ∨ (r = 73 ∧ 12 ≤ c ∧ c ≤ 26) := u; show 73 ≤ r; omega)⟩))
theorem sm_best (a1 : Int32) : zSame (nb_best a1) (md_best a1) := by
  intro M h
  obtain ⟨v, cnt, Ts, f, t, z, k, hg, hC, hM⟩ := h
  exact sm_mk hM hg (ok_mono (bestC_ok hC.1 hg.1 (hC.2.1.2 _ hg.2.2.2.1).1 (hC.2.1.2 _ hg.2.2.2.1).2 a1) (fun y hy => ⟨hy.1, hC.sc hg.2.2.1 hy.2 (fun r c u => by have u2 : r = 35 ∨ r = 36 ∨ (56 ≤ r ∧ r ≤ 63) ∨ (r = 55 ∧ (c = 10 ∨ c = 11)) := u; unfold zSc; omega), hy.2.wk (fun r c u => by have u2 : r = 35 ∨ r = 36 ∨ (56 ≤ r ∧ r ≤ 63) ∨ (r = 55 ∧ (c = 10 ∨ c = 11)) := u; show r < 73; omega)⟩)) (fun M2 h2 => ok_mono (bestM_ok h2.1 hg.1 (h2.2.1.2 _ hg.2.2.2.1) a1) (fun y hy => ⟨hy.1, h2.sc hy.2 (fun r c u => by have u2 : (81 ≤ r ∧ r ≤ 84) ∨ (r = 73 ∧ 12 ≤ c ∧ c ≤ 33) := u; unfold zSd; omega), hy.2.wk (fun r c u => by have u2 : (81 ≤ r ∧ r ≤ 84) ∨ (r = 73 ∧ 12 ≤ c ∧ c ≤ 33) := u; show 73 ≤ r; omega)⟩))
theorem sm_inTurn (a1 : Int32) : zSame (nb_inTurn a1) (md_inTurn a1) := by
  intro M h
  obtain ⟨v, cnt, Ts, f, t, z, k, hg, hC, hM⟩ := h
  exact sm_mk hM hg (ok_mono (inTurnC_ok hC.1 hg.1 (hC.2.1.2 _ hg.2.2.2.1).1 (hC.2.1.2 _ hg.2.2.2.1).2 a1) (fun y hy => ⟨hy.1, hC.sc hg.2.2.1 hy.2 (fun r c u => by have u2 : r = 35 ∨ r = 36 ∨ (56 ≤ r ∧ r ≤ 61) := u; unfold zSc; omega), hy.2.wk (fun r c u => by have u2 : r = 35 ∨ r = 36 ∨ (56 ≤ r ∧ r ≤ 61) := u; show r < 73; omega)⟩)) (fun M2 h2 => ok_mono (inTurnM_ok h2.1 hg.1 (h2.2.1.2 _ hg.2.2.2.1) a1) (fun y hy => ⟨hy.1, h2.sc hy.2 (fun r c u => by have u2 : (81 ≤ r ∧ r ≤ 84) ∨ (r = 73 ∧ 12 ≤ c ∧ c ≤ 26) := u; unfold zSd; omega), hy.2.wk (fun r c u => by have u2 : (81 ≤ r ∧ r ≤ 84) ∨ (r = 73 ∧ 12 ≤ c ∧ c ≤ 26) := u; show 73 ≤ r; omega)⟩))
theorem sm_change (a1 : Int32) : zSame (nb_change a1) (md_change a1) := by
  intro M h
  obtain ⟨v, cnt, Ts, f, t, z, k, hg, hC, hM⟩ := h
  exact sm_mk hM hg (ok_mono (changeC_ok hC.1 hg.1 (hC.2.1.2 _ hg.2.2.2.1).1 (hC.2.1.2 _ hg.2.2.2.1).2 a1) (fun y hy => ⟨hy.1, hC.sc hg.2.2.1 hy.2 (fun r c u => by have u2 : r = 35 ∨ r = 36 ∨ (56 ≤ r ∧ r ≤ 61) := u; unfold zSc; omega), hy.2.wk (fun r c u => by have u2 : r = 35 ∨ r = 36 ∨ (56 ≤ r ∧ r ≤ 61) := u; show r < 73; omega)⟩)) (fun M2 h2 => ok_mono (changeM_ok h2.1 hg.1 (h2.2.1.2 _ hg.2.2.2.1) a1) (fun y hy => ⟨hy.1, h2.sc hy.2 (fun r c u => by have u2 : (81 ≤ r ∧ r ≤ 84) ∨ (r = 73 ∧ 12 ≤ c ∧ c ≤ 26) := u; unfold zSd; omega), hy.2.wk (fun r c u => by have u2 : (81 ≤ r ∧ r ≤ 84) ∨ (r = 73 ∧ 12 ≤ c ∧ c ≤ 26) := u; show 73 ≤ r; omega)⟩))
theorem sm_drawn (a1 : Int32) : zSame (nb_drawn a1) (md_drawn a1) := by
  intro M h
  obtain ⟨v, cnt, Ts, f, t, z, k, hg, hC, hM⟩ := h
  exact sm_mk hM hg (ok_mono (drawnC_ok hC.1 hg.1 (hC.2.1.2 _ hg.2.2.2.1).1 (hC.2.1.2 _ hg.2.2.2.1).2 a1) (fun y hy => ⟨hy.1, hC.sc hg.2.2.1 hy.2 (fun r c u => by have u2 : (17 ≤ r ∧ r ≤ 24) ∨ r = 35 ∨ r = 36 ∨ (56 ≤ r ∧ r ≤ 61) := u; unfold zSc; omega), hy.2.wk (fun r c u => by have u2 : (17 ≤ r ∧ r ≤ 24) ∨ r = 35 ∨ r = 36 ∨ (56 ≤ r ∧ r ≤ 61) := u; show r < 73; omega)⟩)) (fun M2 h2 => ok_mono (drawnM_ok h2.1 hg.1 (h2.2.1.2 _ hg.2.2.2.1) a1) (fun y hy => ⟨hy.1, h2.mv hy.2.2 (fun r c u => by have u2 : r = 79 ∨ (81 ≤ r ∧ r ≤ 85) ∨ (r = 73 ∧ 12 ≤ c ∧ c ≤ 26) := u; unfold zSd; omega) hy.2.1, hy.2.2.wk (fun r c u => by have u2 : r = 79 ∨ (81 ≤ r ∧ r ≤ 85) ∨ (r = 73 ∧ 12 ≤ c ∧ c ≤ 26) := u; show 73 ≤ r; omega)⟩))
theorem sm_chance (a1 a2 a3 : Int32) : zSame (nb_chance a1 a2 a3) (md_chance a1 a2 a3) := by
  intro M h
  obtain ⟨v, cnt, Ts, f, t, z, k, hg, hC, hM⟩ := h
  exact sm_mk hM hg (ok_mono (chanceC_ok hC.1 hg.1 (hC.2.1.2 _ hg.2.2.2.1).1 (hC.2.1.2 _ hg.2.2.2.1).2 a1 a2 a3) (fun y hy => ⟨hy.1, hC.sc hg.2.2.1 hy.2 (fun r c u => by have u2 : (17 ≤ r ∧ r ≤ 24) ∨ r = 35 ∨ r = 36 ∨ (56 ≤ r ∧ r ≤ 61) := u; unfold zSc; omega), hy.2.wk (fun r c u => by have u2 : (17 ≤ r ∧ r ≤ 24) ∨ r = 35 ∨ r = 36 ∨ (56 ≤ r ∧ r ≤ 61) := u; show r < 73; omega)⟩)) (fun M2 h2 => ok_mono (chanceM_ok h2.1 hg.1 (h2.2.1.2 _ hg.2.2.2.1) a1 a2 a3) (fun y hy => ⟨hy.1, h2.mv hy.2.2 (fun r c u => by have u2 : r = 79 ∨ (81 ≤ r ∧ r ≤ 85) ∨ (r = 73 ∧ 12 ≤ c ∧ c ≤ 26) := u; unfold zSd; omega) hy.2.1, hy.2.2.wk (fun r c u => by have u2 : r = 79 ∨ (81 ≤ r ∧ r ≤ 85) ∨ (r = 73 ∧ 12 ≤ c ∧ c ≤ 26) := u; show 73 ≤ r; omega)⟩))
theorem sm_tells (a1 a2 a3 : Int32) : zSame (nb_tells a1 a2 a3) (md_tells a1 a2 a3) := by
  intro M h
  obtain ⟨v, cnt, Ts, f, t, z, k, hg, hC, hM⟩ := h
  exact sm_mk hM hg (ok_mono (tellsC_ok hC.1 hg.1 hg.2.2.1 hg.2.2.2.1 hC.2.1.1 hC.2.1.2 hC.2.2.2.1 a1 a2 a3) (fun y hy => ⟨hy.1, hC.sc hg.2.2.1 hy.2.1 (fun r c u => by have u2 : (17 ≤ r ∧ r ≤ 24) ∨ r = 35 ∨ r = 36 := u; unfold zSc; omega), hy.2.1.wk (fun r c u => by have u2 : (17 ≤ r ∧ r ≤ 24) ∨ r = 35 ∨ r = 36 := u; show r < 73; omega)⟩)) (fun M2 h2 => ok_mono (tellsM_ok h2.1 hg.1 hg.2.2.1 hg.2.2.2.1 h2.2.1.1 h2.2.1.2 h2.2.2.2.1 a1 a2 a3) (fun y hy => ⟨hy.1, h2.mv hy.2.2.1 (fun r c u => by have u2 : (77 ≤ r ∧ r ≤ 79) ∨ (r = 73 ∧ (c = 4 ∨ (12 ≤ c ∧ c ≤ 26))) := u; unfold zSd; omega) hy.2.1, hy.2.2.1.wk (fun r c u => by have u2 : (77 ≤ r ∧ r ≤ 79) ∨ (r = 73 ∧ (c = 4 ∨ (12 ≤ c ∧ c ≤ 26))) := u; show 73 ≤ r; omega)⟩))
theorem sm_count (a1 : Int32) : zSame (nb_count a1) (md_count a1) := by
  intro M h
  obtain ⟨v, cnt, Ts, f, t, z, k, hg, hC, hM⟩ := h
  exact sm_mk (ans := zcount v cnt f a1) hM hg (by rw [count_C hC.1 hg.1 hC.2.1.1 hC.2.2.1.1]; exact ok_ret ⟨rfl, hC, zfx.rf⟩) (fun M2 h2 => by rw [count_M h2.1 hg.1 h2.2.1.1 h2.2.2.1.1]; exact ok_ret ⟨rfl, h2, zfx.rf⟩)
theorem sm_taken (a1 a2 : Int32) : zSame (nb_taken a1 a2) (md_taken a1 a2) := by
  intro M h
  obtain ⟨v, cnt, Ts, f, t, z, k, hg, hC, hM⟩ := h
  exact sm_mk (ans := ztaken v a1 a2) hM hg (by rw [taken_C hC.1 hg.1]; exact ok_ret ⟨rfl, hC, zfx.rf⟩) (fun M2 h2 => by rw [taken_M h2.1 hg.1]; exact ok_ret ⟨rfl, h2, zfx.rf⟩)
theorem sm_book (a1 a2 : Int32) : zSame (nb_book a1 a2) (md_book a1 a2) := by
  intro M h
  obtain ⟨v, cnt, Ts, f, t, z, k, hg, hC, hM⟩ := h
  have le := zbook_le (T := Ts v.ru) (v := v) (a1 := a1) (a2 := a2)
  exact sm_mk (v' := (zbook (Ts v.ru) v a1 a2).2) hM (hg.to (zbook_B hg.1 a1 a2) (by rw [le.2]; exact hg.2.2.2.1) le.1) (ok_mono (bookC_ok hC.1 hg.1 (hC.2.1.2 _ hg.2.2.2.1).1 (hC.2.1.2 _ hg.2.2.2.1).2 a1 a2) (fun y hy => ⟨hy.1, hC.mv hg.2.2.1 hy.2.2.1 (fun r c u => by have u2 : r = 7 ∨ r = 35 ∨ r = 36 := u; unfold zSc; omega) hy.2.1, hy.2.2.1.wk (fun r c u => by have u2 : r = 7 ∨ r = 35 ∨ r = 36 := u; show r < 73; omega)⟩)) (fun M2 h2 => ok_mono (bookM_ok h2.1 hg.1 (h2.2.1.2 _ hg.2.2.2.1) a1 a2) (fun y hy => ⟨hy.1, h2.mv hy.2.2.1 (fun r c u => by have u2 : r = 79 ∨ (r = 73 ∧ 12 ≤ c ∧ c ≤ 26) := u; unfold zSd; omega) hy.2.1, hy.2.2.1.wk (fun r c u => by have u2 : r = 79 ∨ (r = 73 ∧ 12 ≤ c ∧ c ≤ 26) := u; show 73 ≤ r; omega)⟩))
theorem sm_year : zSame (nb_year) (md_year) := by
  intro M h
  obtain ⟨v, cnt, Ts, f, t, z, k, hg, hC, hM⟩ := h
  have le := zyear_le (T := Ts v.ru) (v := v)
  exact sm_mk (v' := (zyear (Ts v.ru) v).2) hM (hg.to (zyear_B hg.1) (by rw [le.2]; exact hg.2.2.2.1) le.1) (ok_mono (yearC_ok hC.1 hg.1 (hC.2.1.2 _ hg.2.2.2.1).1 (hC.2.1.2 _ hg.2.2.2.1).2 ) (fun y hy => ⟨hy.1, hC.mv hg.2.2.1 hy.2.2.1 (fun r c u => by have u2 : (1 ≤ r ∧ r ≤ 8) ∨ r = 35 ∨ r = 36 := u; unfold zSc; omega) hy.2.1, hy.2.2.1.wk (fun r c u => by have u2 : (1 ≤ r ∧ r ≤ 8) ∨ r = 35 ∨ r = 36 := u; show r < 73; omega)⟩)) (fun M2 h2 => ok_mono (yearM_ok h2.1 hg.1 (h2.2.1.2 _ hg.2.2.2.1) ) (fun y hy => ⟨hy.1, h2.mv hy.2.2.1 (fun r c u => by have u2 : r = 77 ∨ r = 79 ∨ (r = 73 ∧ 12 ≤ c ∧ c ≤ 26) := u; unfold zSd; omega) hy.2.1, hy.2.2.1.wk (fun r c u => by have u2 : r = 77 ∨ r = 79 ∨ (r = 73 ∧ 12 ≤ c ∧ c ≤ 26) := u; show 73 ≤ r; omega)⟩))
theorem sm_settle : zSame (nb_settle) (md_settle) := by
  intro M h
  obtain ⟨v, cnt, Ts, f, t, z, k, hg, hC, hM⟩ := h
  have le := zsettle_le (T := Ts v.ru) (v := v)
  exact sm_mk (v' := (zsettle (Ts v.ru) v).2) hM (hg.to (zsettle_B hg.1) (by rw [le.2]; exact hg.2.2.2.1) le.1) (ok_mono (settleC_ok hC.1 hg.1 (hC.2.1.2 _ hg.2.2.2.1).1 (hC.2.1.2 _ hg.2.2.2.1).2 ) (fun y hy => ⟨hy.1, hC.mv hg.2.2.1 hy.2.2 (fun r c u => by have u2 : r = 7 ∨ r = 35 ∨ r = 36 ∨ (56 ≤ r ∧ r ≤ 61) := u; unfold zSc; omega) hy.2.1, hy.2.2.wk (fun r c u => by have u2 : r = 7 ∨ r = 35 ∨ r = 36 ∨ (56 ≤ r ∧ r ≤ 61) := u; show r < 73; omega)⟩)) (fun M2 h2 => ok_mono (settleM_ok h2.1 hg.1 (h2.2.1.2 _ hg.2.2.2.1) ) (fun y hy => ⟨hy.1, h2.mv hy.2.2 (fun r c u => by have u2 : r = 79 ∨ (81 ≤ r ∧ r ≤ 84) ∨ (r = 73 ∧ 12 ≤ c ∧ c ≤ 26) := u; unfold zSd; omega) hy.2.1, hy.2.2.wk (fun r c u => by have u2 : r = 79 ∨ (81 ≤ r ∧ r ≤ 84) ∨ (r = 73 ∧ 12 ≤ c ∧ c ≤ 26) := u; show 73 ≤ r; omega)⟩))
theorem sm_clerks (a1 a2 a3 a4 : Int32) : zSame (nb_clerks a1 a2 a3 a4) (md_clerks a1 a2 a3 a4) := by
  intro M h
  obtain ⟨v, cnt, Ts, f, t, z, k, hg, hC, hM⟩ := h
  have le := zclks_le (v := v) (z := z) (a1 := a1) (a2 := a2) (a3 := a3) (a4 := a4)
  exact sm_mk (v' := (zclks v z a1 a2 a3 a4).2) hM (hg.to (zclks_B hg.1 z a1 a2 a3 a4) (by rw [le.2]; exact hg.2.2.2.1) le.1) (ok_mono (clksC_ok hC.1 hg.1 hC.2.2.2.1 a1 a2 a3 a4) (fun y hy => ⟨hy.1, hC.mv hg.2.2.1 hy.2.2.1 (fun r c u => Or.inl u) hy.2.1, hy.2.2.1.wk (fun r c u => by have u2 : 1 ≤ r ∧ r ≤ 8 := u; show r < 73; omega)⟩)) (fun M2 h2 => ok_mono (clksM_ok h2.1 hg.1 h2.2.2.2.1 a1 a2 a3 a4) (fun y hy => ⟨hy.1, h2.mv hy.2.2.1 (fun r c u => by have u2 : r = 78 ∨ r = 79 ∨ (r = 73 ∧ c = 11) := u; unfold zSd; omega) hy.2.1, hy.2.2.1.wk (fun r c u => by have u2 : r = 78 ∨ r = 79 ∨ (r = 73 ∧ c = 11) := u; show 73 ≤ r; omega)⟩))
theorem sm_film (a1 a2 : Int32) : zSame (nb_film a1 a2) (md_film a1 a2) := by
  intro M h
  obtain ⟨v, cnt, Ts, f, t, z, k, hg, hC, hM⟩ := h
  exact sm_mk (z' := (zfilm (Ts v.ru) v z a1 a2).2) hM hg (ok_mono (filmC_ok hC.1 hg.1 (hC.2.1.2 _ hg.2.2.2.1).1 (hC.2.1.2 _ hg.2.2.2.1).2 hC.2.2.2.1 a1 a2) (fun y hy => ⟨hy.1, hC.mz hg.2.2.1 hy.2.2.1 (fun r c u => by have u2 : r = 35 ∨ r = 36 ∨ (65 ≤ r ∧ r ≤ 72) := u; unfold zSc; omega) hy.2.1, hy.2.2.1.wk (fun r c u => by have u2 : r = 35 ∨ r = 36 ∨ (65 ≤ r ∧ r ≤ 72) := u; show r < 73; omega)⟩)) (fun M2 h2 => ok_mono (filmM_ok h2.1 hg.1 (h2.2.1.2 _ hg.2.2.2.1) h2.2.2.2.1 a1 a2) (fun y hy => ⟨hy.1, h2.mz hy.2.2 (fun r c u => by have u2 : (89 ≤ r ∧ r ≤ 92) ∨ (r = 73 ∧ 12 ≤ c ∧ c ≤ 26) := u; unfold zSd; omega) hy.2.1, hy.2.2.wk (fun r c u => by have u2 : (89 ≤ r ∧ r ≤ 92) ∨ (r = 73 ∧ 12 ≤ c ∧ c ≤ 26) := u; show 73 ≤ r; omega)⟩))
theorem sm_cell (a1 a2 a3 : Int32) : zSame (nb_cell a1 a2 a3) (md_cell a1 a2 a3) := by
  intro M h
  obtain ⟨v, cnt, Ts, f, t, z, k, hg, hC, hM⟩ := h
  exact sm_mk (z' := if zcek z a1 a2 = 3 then zcel z a1 a2 a3 else z) hM hg (ok_mono (cell_C hC.2.2.2.1 a1 a2 a3) (fun y hy => ⟨hy.1, hC.mz hg.2.2.1 hy.2.2.1.x (fun r c u => Or.inl (f65 (c := c) u)) hy.2.1, hy.2.2.1.x.wk (fun r c u => by have := f65 (c := c) u; show r < 73; omega)⟩)) (fun M2 h2 => ok_mono (cell_M h2.2.2.2.1 a1 a2 a3) (fun y hy => ⟨hy.1, h2.mz hy.2.2.1.x (fun r c u => Or.inl (f89 (c := c) u)) hy.2.1, hy.2.2.1.x.wk (fun r c u => by have := f89 (c := c) u; show 73 ≤ r; omega)⟩))
theorem sm_copy (a1 a2 a3 a4 a5 : Int32) : zSame (nb_copy a1 a2 a3 a4 a5) (md_copy a1 a2 a3 a4 a5) := by
  intro M h
  obtain ⟨v, cnt, Ts, f, t, z, k, hg, hC, hM⟩ := h
  exact sm_mk (z' := if zcpk z a1 a2 a3 a4 a5 = 4 then zcpy z a1 a2 a3 a4 a5 else z) hM hg (ok_mono (copy_C hC.2.2.2.1 a1 a2 a3 a4 a5) (fun y hy => ⟨hy.1, hC.mz hg.2.2.1 hy.2.2.1.x (fun r c u => Or.inl (f65 (c := c) u)) hy.2.1, hy.2.2.1.x.wk (fun r c u => by have := f65 (c := c) u; show r < 73; omega)⟩)) (fun M2 h2 => ok_mono (copy_M h2.2.2.2.1 a1 a2 a3 a4 a5) (fun y hy => ⟨hy.1, h2.mz hy.2.2.1.x (fun r c u => Or.inl (f89 (c := c) u)) hy.2.1, hy.2.2.1.x.wk (fun r c u => by have := f89 (c := c) u; show 73 ≤ r; omega)⟩))
theorem sm_sheet (a1 a2 a3 : Int32) : zSame (nb_sheet a1 a2 a3) (md_sheet a1 a2 a3) := by
  intro M h
  obtain ⟨v, cnt, Ts, f, t, z, k, hg, hC, hM⟩ := h
  have k3 : zshk a1 a2 a3 = 0 ∨ zshk a1 a2 a3 = 1 ∨ zshk a1 a2 a3 = 2 := by
    unfold zshk
    split
    · exact Or.inl rfl
    · split
      · exact Or.inr (Or.inr rfl)
      · split
        · exact Or.inl rfl
        · split
          · exact Or.inl rfl
          · split
            · exact Or.inr (Or.inl rfl)
            · exact Or.inr (Or.inr rfl)
  rcases k3 with k3 | k3 | k3
  · exact sm_mk (ans := (-2 : Int32)) hM hg (ok_mono (sheet_C hC.2.2.2.1 a1 a2 a3) (fun y hy => ⟨(hy.1 k3).1, by rw [(hy.1 k3).2]; exact hC, by rw [(hy.1 k3).2]; exact zfx.rf⟩)) (fun M2 h2 => ok_mono (sheet_M h2.2.2.2.1 a1 a2 a3) (fun y hy => ⟨(hy.1 k3).1, by rw [(hy.1 k3).2]; exact h2, by rw [(hy.1 k3).2]; exact zfx.rf⟩))
  · exact sm_mk (ans := (-14 : Int32)) hM hg (ok_mono (sheet_C hC.2.2.2.1 a1 a2 a3) (fun y hy => ⟨(hy.2.1 k3).1, by rw [(hy.2.1 k3).2]; exact hC, by rw [(hy.2.1 k3).2]; exact zfx.rf⟩)) (fun M2 h2 => ok_mono (sheet_M h2.2.2.2.1 a1 a2 a3) (fun y hy => ⟨(hy.2.1 k3).1, by rw [(hy.2.1 k3).2]; exact h2, by rw [(hy.2.1 k3).2]; exact zfx.rf⟩))
  · exact sm_mk (ans := (1 : Int32)) (z' := zshl z a1 a2 a3) hM hg (ok_mono (sheet_C hC.2.2.2.1 a1 a2 a3) (fun y hy => ⟨(hy.2.2.1 k3).1, hC.mz hg.2.2.1 hy.2.2.2.1.x (fun r c u => Or.inl (f65 (c := c) u)) (hy.2.2.1 k3).2, hy.2.2.2.1.x.wk (fun r c u => by have := f65 (c := c) u; show r < 73; omega)⟩)) (fun M2 h2 => ok_mono (sheet_M h2.2.2.2.1 a1 a2 a3) (fun y hy => ⟨(hy.2.2.1 k3).1, h2.mz hy.2.2.2.1.x (fun r c u => Or.inl (f89 (c := c) u)) (hy.2.2.1 k3).2, hy.2.2.2.1.x.wk (fun r c u => by have := f89 (c := c) u; show 73 ≤ r; omega)⟩))
theorem sm_set (a1 a2 a3 : Int32) : zSame (nb_set a1 a2 a3) (md_set a1 a2 a3) := by
  intro M h
  obtain ⟨v, cnt, Ts, f, t, z, k, hg, hC, hM⟩ := h
  by_cases o : zsok v a1 a2 a3
  · have le := zput_le (v := v) (w := a1.toInt.toNat) (p := a2.toInt.toNat) (x := a3.toInt.toNat) (by have := o.1; omega)
    exact sm_mk (v' := (zset v a1 a2 a3).2) hM (hg.to (zset_B hg.1 o) (by show (zput v a1.toInt.toNat a2.toInt.toNat a3.toInt.toNat).ru < cnt; rw [le.2]; exact hg.2.2.2.1) le.1) (ok_mono (set_C hC.1 hg.1 a1 a2 a3) (fun y hy => ⟨(hy.1.1 o).1, hC.mv hg.2.2.1 hy.2.1.x (fun r c u => Or.inl (f18 (c := c) u)) (hy.1.1 o).2, hy.2.1.x.wk (fun r c u => by have := f18 (c := c) u; show r < 73; omega)⟩)) (fun M2 h2 => ok_mono (set_M h2.1 hg.1 a1 a2 a3) (fun y hy => ⟨(hy.1.1 o).1, h2.mv hy.2.1.x (fun r c u => by have u2 : (r == 77 || r == 79) = true := u; simp at u2; exact Or.inl (by omega)) (hy.1.1 o).2, hy.2.1.x.wk (fun r c u => by have u2 : (r == 77 || r == 79) = true := u; simp at u2; show 73 ≤ r; omega)⟩))
  · exact sm_mk (ans := (-2 : Int32)) hM hg (ok_mono (set_C hC.1 hg.1 a1 a2 a3) (fun y hy => ⟨(hy.1.2 o).1, by rw [(hy.1.2 o).2]; exact hC, by rw [(hy.1.2 o).2]; exact zfx.rf⟩)) (fun M2 h2 => ok_mono (set_M h2.1 hg.1 a1 a2 a3) (fun y hy => ⟨(hy.1.2 o).1, by rw [(hy.1.2 o).2]; exact h2, by rw [(hy.1.2 o).2]; exact zfx.rf⟩))
theorem sm_clerk (a1 a2 a3 : Int32) : zSame (nb_clerk a1 a2 a3) (md_clerk a1 a2 a3) := by
  intro M h
  obtain ⟨v, cnt, Ts, f, t, z, k, hg, hC, hM⟩ := h
  by_cases o : zcok a1 a2 a3
  · have le := zclerk_le (v := v) (a := a1) (b := a2) (c := a3)
    refine sm_mk (v' := (zclerk v a1 a2 a3).2) hM (hg.to (zclerk_B2 hg.1 o) (by rw [le.2]; exact hg.2.2.2.1) le.1) (ok_mono (clerk_C hC.1 hg.1 a1 a2 a3) (fun y hy => ⟨(hy.1.1 o).1, hC.mv hg.2.2.1 hy.2.1.x (fun r c u => Or.inl (f18 (c := c) u)) (hy.1.1 o).2, hy.2.1.x.wk (fun r c u => by have := f18 (c := c) u; show r < 73; omega)⟩)) (fun M2 h2 => ok_mono (clerk_M h2.1 hg.1 a1 a2 a3) (fun y hy => ?_))
    have fx : zfx (fun r c => r = 78 ∨ r = 79 ∨ (r = 73 ∧ c = 11)) M2.1 y.2.1 := fun r c w => by
      by_cases e : r = 73
      · rw [e]; exact hy.2.2.1 c (by omega)
      · rw [hy.2.1 r (by omega) (by omega) e]
    exact ⟨(hy.1.1 o).1, h2.mv fx (fun r c u => by have u2 : r = 78 ∨ r = 79 ∨ (r = 73 ∧ c = 11) := u; unfold zSd; omega) (hy.1.1 o).2, fx.wk (fun r c u => by have u2 : r = 78 ∨ r = 79 ∨ (r = 73 ∧ c = 11) := u; show 73 ≤ r; omega)⟩
  · exact sm_mk (ans := (-2 : Int32)) hM hg (ok_mono (clerk_C hC.1 hg.1 a1 a2 a3) (fun y hy => ⟨(hy.1.2 o).1, by rw [(hy.1.2 o).2]; exact hC, by rw [(hy.1.2 o).2]; exact zfx.rf⟩)) (fun M2 h2 => ok_mono (clerk_M h2.1 hg.1 a1 a2 a3) (fun y hy => ⟨(hy.1.2 o).1, by rw [(hy.1.2 o).2]; exact h2, by rw [(hy.1.2 o).2]; exact zfx.rf⟩))
theorem sm_apart (a1 a2 a3 : Int32) : zSame (nb_apart a1 a2 a3) (md_apart a1 a2 a3) := by
  intro M h
  obtain ⟨v, cnt, Ts, f, t, z, k, hg, hC, hM⟩ := h
  by_cases o : zaok v a1 a2 a3
  · have hne : a1.toInt.toNat ≠ a2.toInt.toNat := fun e => o.2.2.1 (i_eq.mpr (by have := o.1; have := o.2.1; omega))
    exact sm_mk (v' := (zapart v a1 a2 a3).2) hM (hg.to (zpart_B hg.1 (by have := o.1; omega) (by have := o.2.1; omega) hne) hg.2.2.2.1 ⟨Nat.le_refl _, fun q hq => rfl⟩) (ok_mono (apart_C hC.1 hg.1 a1 a2 a3) (fun y hy => ⟨(hy.1.1 o).1, hC.mv hg.2.2.1 hy.2.1.x (fun r c u => Or.inl (f18 (c := c) u)) (hy.1.1 o).2, hy.2.1.x.wk (fun r c u => by have := f18 (c := c) u; show r < 73; omega)⟩)) (fun M2 h2 => ok_mono (apart_M h2.1 hg.1 a1 a2 a3) (fun y hy => ⟨(hy.1.1 o).1, h2.mv hy.2.1.x (fun r c u => by have u2 : (r == 80) = true := u; simp at u2; exact Or.inl (by omega)) (hy.1.1 o).2, hy.2.1.x.wk (fun r c u => by have u2 : (r == 80) = true := u; simp at u2; show 73 ≤ r; omega)⟩))
  · exact sm_mk (ans := (-2 : Int32)) hM hg (ok_mono (apart_C hC.1 hg.1 a1 a2 a3) (fun y hy => ⟨(hy.1.2 o).1, by rw [(hy.1.2 o).2]; exact hC, by rw [(hy.1.2 o).2]; exact zfx.rf⟩)) (fun M2 h2 => ok_mono (apart_M h2.1 hg.1 a1 a2 a3) (fun y hy => ⟨(hy.1.2 o).1, by rw [(hy.1.2 o).2]; exact h2, by rw [(hy.1.2 o).2]; exact zfx.rf⟩))
theorem zru_B {v : zV} (hB : zB v) {x : Nat} (hx : x < 6) : zB (zs v 3 x) := by
  refine ⟨hB.n, hB.yr, hB.nd, hB.ky, ?_, fun q hq => hB.kd q hq, fun q hq => hB.nu q hq, fun q hq => hB.le q hq, fun q hq => hB.wi q hq, fun q hq => hB.po q hq, fun q hq => hB.bl q hq, fun q hq => hB.ap q hq, fun q hq => hB.az q hq, fun q r hq hr => hB.as q r hq hr, fun q hq => hB.ai q hq⟩
  show x < 6
  exact hx
theorem sm_force (a1 : Int32) : zSame (nb_force a1) (md_force a1) := by
  intro M h
  obtain ⟨v, cnt, Ts, f, t, z, k, hg, hC, hM⟩ := h
  by_cases o : 0 ≤ a1.toInt ∧ a1.toInt < cnt
  · have h6 := hg.2.2.1
    refine sm_mk (v' := zs v 3 a1.toInt.toNat) hM (hg.to (zru_B hg.1 (by omega)) (by show a1.toInt.toNat < cnt; omega) ⟨Nat.le_refl _, fun q hq => rfl⟩) (ok_mono (force_C hC.1 hC.2.1.1 hg.2.1 hg.2.2.1 a1) (fun y hy => ⟨(hy.1.1 o).1, hC.mv hg.2.2.1 hy.2.1.x (fun r c u => Or.inl (f18 (c := c) u)) (hy.1.1 o).2, hy.2.1.x.wk (fun r c u => by have := f18 (c := c) u; show r < 73; omega)⟩)) (fun M2 h2 => ok_mono (force_M h2.1 h2.2.1.1 hg.2.1 hg.2.2.1 a1) (fun y hy => ?_))
    have fx : zfx (fun r c => r = 73 ∧ c = 4) M2.1 y.2.1 := fun r c w => by
      by_cases e : r = 73
      · rw [e]; exact hy.2.2.1 c (by omega)
      · rw [hy.2.1 r (by simp [e])]
    exact ⟨(hy.1.1 o).1, h2.mv fx (fun r c u => by have u2 : r = 73 ∧ c = 4 := u; unfold zSd; omega) (hy.1.1 o).2, fx.wk (fun r c u => by have u2 : r = 73 ∧ c = 4 := u; show 73 ≤ r; omega)⟩
  · exact sm_mk (ans := (-2 : Int32)) hM hg (ok_mono (force_C hC.1 hC.2.1.1 hg.2.1 hg.2.2.1 a1) (fun y hy => ⟨(hy.1.2 o).1, by rw [(hy.1.2 o).2]; exact hC, by rw [(hy.1.2 o).2]; exact zfx.rf⟩)) (fun M2 h2 => ok_mono (force_M h2.1 h2.2.1.1 hg.2.1 hg.2.2.1 a1) (fun y hy => ⟨(hy.1.2 o).1, by rw [(hy.1.2 o).2]; exact h2, by rw [(hy.1.2 o).2]; exact zfx.rf⟩))
theorem sm_feed (a1 : Int32) : zSame (nb_feed a1) (md_feed a1) := by
  intro M h
  obtain ⟨v, cnt, Ts, f, t, z, k, hg, hC, hM⟩ := h
  by_cases o : zfok a1
  · by_cases e6 : f = 160
    · exact sm_mk (ans := (-4 : Int32)) hM hg (ok_mono (feed_C hC.2.2.1 a1) (fun y hy => ⟨(hy.2.1 o e6).1, by rw [(hy.2.1 o e6).2]; exact hC, by rw [(hy.2.1 o e6).2]; exact zfx.rf⟩)) (fun M2 h2 => ok_mono (feed_M h2.2.2.1 a1) (fun y hy => ⟨(hy.2.1 o e6).1, by rw [(hy.2.1 o e6).2]; exact h2, by rw [(hy.2.1 o e6).2]; exact zfx.rf⟩))
    · have l6 : f < 160 := by have := hC.2.2.1.2.1; omega
      refine sm_mk (ans := nI (f + 1)) (Ts' := Ts) (z' := z) (f' := f + 1) (t' := zty t f a1.toInt.toNat) hM hg (ok_mono (feed_C hC.2.2.1 a1) (fun y hy => ?_)) (fun M2 h2 => ok_mono (feed_M h2.2.2.1 a1) (fun y hy => ?_))
      · have fx : zfx (fun r c => (r = 0 ∧ c = 5) ∨ r = 25) M.1 y.2.1 := fun r c w => by
          by_cases e : r = 0
          · rw [e]; exact hy.2.2.2.2.1 c (by omega)
          · rw [hy.2.2.2.1 r (by
              have : r ≠ 25 := by omega
              simp [e, this])]
        exact ⟨(hy.2.2.1 o l6).1, hC.mt hg.2.2.1 fx (fun r c u => u) (hy.2.2.1 o l6).2, fx.wk (fun r c u => by have u2 : (r = 0 ∧ c = 5) ∨ r = 25 := u; show r < 73; omega)⟩
      · have fx : zfx (fun r c => (r = 73 ∧ c = 6) ∨ r = 76) M2.1 y.2.1 := fun r c w => by
          by_cases e : r = 73
          · rw [e]; exact hy.2.2.2.2.1 c (by omega)
          · rw [hy.2.2.2.1 r (by
              have : r ≠ 76 := by omega
              simp [e, this])]
        exact ⟨(hy.2.2.1 o l6).1, h2.mt fx (fun r c u => u) (hy.2.2.1 o l6).2, fx.wk (fun r c u => by have u2 : (r = 73 ∧ c = 6) ∨ r = 76 := u; show 73 ≤ r; omega)⟩
  · exact sm_mk (ans := (-2 : Int32)) hM hg (ok_mono (feed_C hC.2.2.1 a1) (fun y hy => ⟨(hy.1 o).1, by rw [(hy.1 o).2]; exact hC, by rw [(hy.1 o).2]; exact zfx.rf⟩)) (fun M2 h2 => ok_mono (feed_M h2.2.2.1 a1) (fun y hy => ⟨(hy.1 o).1, by rw [(hy.1 o).2]; exact h2, by rw [(hy.1 o).2]; exact zfx.rf⟩))
