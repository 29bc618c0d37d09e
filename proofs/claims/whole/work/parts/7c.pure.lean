/-! what holds at the start -/
theorem st_Inv : Inv (false, false) zZB.1 := by
  obtain ⟨a0, a2, a3, a4, a5, a6, a7, a8, a9, a10, a11, a12⟩ := st_f7
  obtain ⟨b1, b2, b3, b4, b5, b6, b7, b8, b9, b10, b11, b12, b13, b14, b15⟩ := st_mi
  have r72 : ∀ k, k < 56 → ¬ k = 34 → zZB.1 72 k = 0 := fun k h1 h2 => st_72 ⟨k, h1⟩ h2
  have r73 : ∀ k, k < 148 → zZB.1 73 k = 0 := fun k h => st_73 ⟨k, h⟩
  have z0 : (0 : Int32) = nI 0 := rfl
  have hcr : CRJ 0 7 8 zZB.1 zZB.1 := by
    refine ⟨by omega, a2.trans rfl, (r72 6 (by omega) (by omega)).trans rfl, ?_, ?_, ?_, ?_, ?_, ?_, ?_, ?_, ?_, fun t ht => absurd ht (by omega), fun t _ ht k h1 h2 => r73 _ (by omega)⟩
    · rw [a3, r73 1 (by omega)]
    · rw [a4, r73 3 (by omega)]
      rfl
    · rw [a5, r72 7 (by omega) (by omega)]
    · rw [a6, r72 8 (by omega) (by omega)]
      rfl
    · rw [a7, r73 4 (by omega)]
      rfl
    · rw [a8, r73 5 (by omega)]
    · rw [a9, r73 6 (by omega)]
    · rw [a10, r73 0 (by omega)]
    · rw [a11, r73 2 (by omega)]
  have hrg : RG 0 0 (zZB.1 73) (zZB.1 76) (zZB.1 77) := by
    refine ⟨(r73 0 (by omega)).trans rfl, ⟨50, by omega, ?_⟩, ⟨0, by omega, (r73 4 (by omega)).trans rfl⟩, fun t ht => absurd ht (by omega)⟩
    rw [r73 3 (by omega)]
    rfl
  have hcu : CU 0 0 0 0 zZB.1 zZB.1 := ⟨⟨hcr, hrg, a0.trans rfl, (r72 5 (by omega) (by omega)).trans rfl, 0, by omega, (r73 2 (by omega)).trans rfl, fun k hk => absurd hk (by omega)⟩, ⟨by omega, (r73 2 (by omega)).trans rfl⟩, a12.trans rfl, by omega, by omega, (fun _ => 0), (fun _ => 0), (r73 7 (by omega)).trans rfl, fun d hd => absurd hd (by omega)⟩
  have hsp : SP 0 (fun _ => 0) (fun _ => 0) (fun _ => 0) 0 0 zZB.1 zZB.1 := ⟨by omega, by omega, b6.trans rfl, b7.trans rfl, (r72 3 (by omega) (by omega)).trans rfl, fun i hi => absurd hi (by omega), fun i hi => absurd hi (by omega)⟩
  have hwn : WRn 0 zZB.1 zZB.1 := ⟨⟨0, (fun _ => 0), (fun _ => 0), (fun _ => 0), (fun _ => 0), by omega, b8.trans rfl, (r72 37 (by omega) (by omega)).trans rfl, fun i hi => absurd hi (by omega)⟩, 0, (fun _ => 0), (fun _ => 0), by omega, b10.trans rfl, (r72 45 (by omega) (by omega)).trans rfl, fun k hk => absurd hk (by omega), fun t ht => (st_94.1 ⟨t, ht⟩).trans rfl⟩
  have hwo : WRo zZB.1 zZB.1 := by
    refine ⟨⟨0, (fun _ => 0), (fun _ => 0), (fun _ => 0), (fun _ => 0), (fun _ => 0), (fun _ => 0), by omega, b12.trans rfl, b15.trans rfl, fun l hl => absurd hl (by omega)⟩, ⟨0, (fun _ => 0), (fun _ => 0), by omega, b14.trans rfl, (r72 35 (by omega) (by omega)).trans rfl, b13.trans rfl, fun i hi => absurd hi (by omega)⟩, ⟨0, by omega, b9.trans rfl, (r72 43 (by omega) (by omega)).trans rfl, fun k hk => absurd hk (by omega)⟩, ⟨0, by omega, b11.trans rfl, (r72 47 (by omega) (by omega)).trans rfl, fun k hk => absurd hk (by omega)⟩, fun k hk => ?_⟩
    obtain ⟨c1, c2⟩ := st_94.2 ⟨k, hk⟩
    dsimp only at c1 c2
    rw [c1, c2]
    exact ⟨rfl, by decide⟩
  refine ⟨⟨0, 0, 0, (fun _ => 0), (fun _ => 0), (fun _ => 0), hcu, hsp, hwn, hwo⟩, ⟨0, ⟨by omega, b2.trans rfl, (r72 13 (by omega) (by omega)).trans rfl, fun k hk => absurd hk (by omega)⟩, fun k hk => absurd hk (by omega), fun k hk => st_80 ⟨k, hk⟩⟩, ⟨?_, ?_⟩, b5, ?_⟩
  · rw [b3, r72 33 (by omega) (by omega)]
  · rw [b4, b1]
  · show (if (false : Bool) = true then _ else _)
    exact r72 54 (by omega) (by omega)
set_option maxRecDepth 100000 in
set_option maxHeartbeats 4000000 in
theorem st_R : ∀ x : Fin 101, (zS x.val).1 = 1 → ∀ k : Fin 57, k.val < (zcl (zS x.val).2).2.2 → zIsR (zS x.val).2 k.val = true → zZB.2.2.1 x.val k.val = zRs (false, false) x.val k.val := by decide +kernel
set_option maxRecDepth 100000 in
set_option maxHeartbeats 4000000 in
theorem st_43 (k : Nat) : zZB.2.2.1 43 k = if k = 5 then some 54 else if k = 4 then some 52 else if k = 3 then some 50 else if k = 2 then some 48 else if k = 1 then some 46 else if k = 0 then some 44 else none := rfl
