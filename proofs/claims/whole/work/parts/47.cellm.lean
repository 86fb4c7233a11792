/-! level 2: cell of the model -/
theorem z_pred40 {n : Nat} (h : n ≤ 40) : (nI n - 1).toInt = (n : Int) - 1 := by
  have f : ∀ n ≤ 40, (nI n - 1).toInt = (n : Int) - 1 := by decide +kernel
  exact f n h
theorem cell_M {M : mm_M} {z : zT} (h : StM M.1 z) (a1 a2 a3 : Int32) : Ok (md_cell a1 a2 a3 M) (fun y => y.1 = zcea (zcek z a1 a2) ∧ StM y.2.1 (if zcek z a1 a2 = 3 then zcel z a1 a2 a3 else z) ∧ Fr z89 M.1 y.2.1 ∧ y.2.2 = M.2) := by
  have kk : ∀ (k : Nat) (r : Int32), k < 3 → zcek z a1 a2 = k → r = zcea k → Ok (some (r, M)) (fun y => y.1 = zcea (zcek z a1 a2) ∧ StM y.2.1 (if zcek z a1 a2 = 3 then zcel z a1 a2 a3 else z) ∧ Fr z89 M.1 y.2.1 ∧ y.2.2 = M.2) := by
    intro k r hk e hr
    refine ok_ret ⟨by rw [e]; exact hr, ?_, Fr.rfl', rfl⟩
    rw [if_neg (by omega)]
    exact h
  unfold md_cell
  rw [isSheetM_eq]
  simp only [Option.bind_some]
  refine ok_ite (fun c => kk 0 _ (by omega) (by unfold zcek; rw [if_pos (bI_0.mp c)]) rfl) (fun c1 => ?_)
  have q1 := b_of c1
  obtain ⟨s, hs, rfl, es⟩ := zI_of (x := a1) q1.1
  have esn : (nI s).toInt.toNat = s := by omega
  have hs4 : s < 4 := by omega
  have is : ak_inb (nI s) 4 = true := zI_inb hs hs4
  obtain ⟨b0, b00, b000⟩ := h s hs4
  rw [if_pos is, zI_nat hs, b0]
  by_cases cz : z.1 s = 0
  · rw [bI_f (fun w => w cz), if_pos rfl]
    exact kk 1 _ (by omega) (by unfold zcek; rw [if_neg (fun w => w q1), esn, if_pos cz]) rfl
  obtain ⟨b1, b2, b3, b4⟩ := b000 cz
  rw [bI_t cz, if_neg (by decide), if_pos is, in_eq]
  simp only [Option.bind_some, Int32.toInt_toInt64, show (0 : Int64).toInt = 0 from rfl, b2, z_pred40 b3]
  refine ok_ite (fun c => kk 2 _ (by omega) ?_ rfl) (fun c2 => ?_)
  · have w := bI_0.mp c
    unfold zcek
    rw [if_neg (fun w => w q1), esn, if_neg cz, if_pos (by omega)]
  have q2 := b_of c2
  obtain ⟨i, hi, rfl, ei⟩ := zI_of (x := a2) q2.1
  have ein : (nI i).toInt.toNat = i := by omega
  have hk : zcek z (nI s) (nI i) = 3 := by
    unfold zcek
    rw [if_neg (fun w => w q1), esn, if_neg cz, if_neg (by omega)]
  have ix : ak_inb (nI (40 * s + i)) 160 = true := zI_inb (by omega) (by omega)
  have fin : ∀ x : Int32, x = zkeep (z.1 s) a3 → Ok (some ((1 : Int32), (ak_up M.1 92 (40 * s + i) x, M.2))) (fun y => y.1 = zcea (zcek z (nI s) (nI i)) ∧ StM y.2.1 (if zcek z (nI s) (nI i) = 3 then zcel z (nI s) (nI i) a3 else z) ∧ Fr z89 M.1 y.2.1 ∧ y.2.2 = M.2) := by
    intro x hx
    refine ok_ret ⟨by rw [hk]; rfl, ?_, Fr.rfl'.up rfl, rfl⟩
    rw [if_pos hk]
    unfold zcel
    rw [esn, ein, ← hx]
    exact StM_item h hs4 (by omega)
  rw [if_pos is, z40, zI_nat (show 40 * s + i < 2147483648 by omega), b1]
  by_cases d1 : z.1 s = 1
  · rw [if_pos ((z_s3 b00).2.1.mpr d1), if_pos ix]
    exact fin _ (by unfold zkeep; rw [if_pos d1])
  · rw [if_neg (fun w => d1 ((z_s3 b00).2.1.mp w)), if_pos is]
    by_cases d2 : z.1 s = 2
    · rw [if_pos ((z_s3 b00).2.2.mpr d2), if_pos ix]
      exact fin _ (by unfold zkeep; rw [if_neg d1, if_pos d2])
    · rw [if_neg (fun w => d2 ((z_s3 b00).2.2.mp w)), if_pos ix]
      exact fin _ (by unfold zkeep; rw [if_neg d1, if_neg d2])
