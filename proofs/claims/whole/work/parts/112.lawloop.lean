/-! THE LAW: its loop -/
set_option maxRecDepth 100000 in
set_option maxHeartbeats 4000000 in
theorem law_disp {K : JK} (hC : Cx K cL_law 4 RL) (hR : kRm K = room_1) {b L : Nat} {xs : Nat → Int32} (hs : Scr K b L xs) (hL : L ≤ 3584) {i k : Nat} {σ : St} {n1 n2 : Nat} (hi : i + 7 ≤ L) (hk : k ≤ 65536) (h : Sim k σ σ) (hn : n1 + 32 ≤ 600000 ∧ n2 + 1072 ≤ 7302250) (go : ∀ σ2, Sim (k + 1) σ2 σ2 → J K 1163 (LL i) [] σ2 (n1 + 32) (n2 + 1072)) : J K 27 (LL i) [] σ n1 n2 := by
  refine r_aload_n hC dL_law_27 rfl ?_
  refine r_iload_n hC dL_law_28 rfl ?_
  refine r_sld hC hs (by omega) hL dL_law_29 ?_
  refine r_bipush hC dL_law_30 (by decide) ?_
  refine r_iand hC dL_law_32 ?_
  obtain ⟨z, hz⟩ : ∃ z : Int, z = nm (zand (xA xs i) 31) := ⟨_, rfl⟩
  have hsw : z = 0 ∨ z = 1 ∨ z = 2 ∨ z = 3 ∨ z = 4 ∨ z = 5 ∨ z = 6 ∨ z = 7 ∨ z = 8 ∨ z = 9 ∨ z = 10 ∨ z = 11 ∨ z = 12 ∨ z = 13 ∨ z = 14 ∨ z = 15 ∨ z = 16 ∨ z = 17 ∨ z = 18 ∨ z = 19 ∨ z = 20 ∨ z = 21 ∨ z = 22 ∨ (z < 0 ∨ 22 < z) := by omega
  rcases hsw with e | e | e | e | e | e | e | e | e | e | e | e | e | e | e | e | e | e | e | e | e | e | e | e
  · exact r_tabIn (tgt := 140) hC 0 (hz.symm.trans e) dL_law_33 (by decide) (by decide) rfl (by decide) (law_0 hC hR hs hL hi hk h hn go)
  · exact r_tabIn (tgt := 173) hC 1 (hz.symm.trans e) dL_law_33 (by decide) (by decide) rfl (by decide) (law_1 hC hR hs hL hi hk h hn go)
  · exact r_tabIn (tgt := 196) hC 2 (hz.symm.trans e) dL_law_33 (by decide) (by decide) rfl (by decide) (law_2 hC hR hs hL hi hk h hn go)
  · exact r_tabIn (tgt := 219) hC 3 (hz.symm.trans e) dL_law_33 (by decide) (by decide) rfl (by decide) (law_3 hC hR hs hL hi hk h hn go)
  · exact r_tabIn (tgt := 242) hC 4 (hz.symm.trans e) dL_law_33 (by decide) (by decide) rfl (by decide) (law_4 hC hR hs hL hi hk h hn go)
  · exact r_tabIn (tgt := 285) hC 5 (hz.symm.trans e) dL_law_33 (by decide) (by decide) rfl (by decide) (law_5 hC hR hs hL hi hk h hn go)
  · exact r_tabIn (tgt := 318) hC 6 (hz.symm.trans e) dL_law_33 (by decide) (by decide) rfl (by decide) (law_6 hC hR hs hL hi hk h hn go)
  · exact r_tabIn (tgt := 342) hC 7 (hz.symm.trans e) dL_law_33 (by decide) (by decide) rfl (by decide) (law_7 hC hR hs hL hi hk h hn go)
  · exact r_tabIn (tgt := 385) hC 8 (hz.symm.trans e) dL_law_33 (by decide) (by decide) rfl (by decide) (law_8 hC hR hs hL hi hk h hn go)
  · exact r_tabIn (tgt := 438) hC 9 (hz.symm.trans e) dL_law_33 (by decide) (by decide) rfl (by decide) (law_9 hC hR hs hL hi hk h hn go)
  · exact r_tabIn (tgt := 481) hC 10 (hz.symm.trans e) dL_law_33 (by decide) (by decide) rfl (by decide) (law_10 hC hR hs hL hi hk h hn go)
  · exact r_tabIn (tgt := 556) hC 11 (hz.symm.trans e) dL_law_33 (by decide) (by decide) rfl (by decide) (law_11 hC hR hs hL hi hk h hn go)
  · exact r_tabIn (tgt := 599) hC 12 (hz.symm.trans e) dL_law_33 (by decide) (by decide) rfl (by decide) (law_12 hC hR hs hL hi hk h hn go)
  · exact r_tabIn (tgt := 710) hC 13 (hz.symm.trans e) dL_law_33 (by decide) (by decide) rfl (by decide) (law_13 hC hR hs hL hi hk h hn go)
  · exact r_tabIn (tgt := 805) hC 14 (hz.symm.trans e) dL_law_33 (by decide) (by decide) rfl (by decide) (law_14 hC hR hs hL hi hk h hn go)
  · exact r_tabIn (tgt := 858) hC 15 (hz.symm.trans e) dL_law_33 (by decide) (by decide) rfl (by decide) (law_15 hC hR hs hL hi hk h hn go)
  · exact r_tabIn (tgt := 891) hC 16 (hz.symm.trans e) dL_law_33 (by decide) (by decide) rfl (by decide) (law_16 hC hR hs hL hi hk h hn go)
  · exact r_tabIn (tgt := 944) hC 17 (hz.symm.trans e) dL_law_33 (by decide) (by decide) rfl (by decide) (law_17 hC hR hs hL hi hk h hn go)
  · exact r_tabIn (tgt := 977) hC 18 (hz.symm.trans e) dL_law_33 (by decide) (by decide) rfl (by decide) (law_18 hC hR hs hL hi hk h hn go)
  · exact r_tabIn (tgt := 1021) hC 19 (hz.symm.trans e) dL_law_33 (by decide) (by decide) rfl (by decide) (law_19 hC hR hs hL hi hk h hn go)
  · exact r_tabIn (tgt := 1054) hC 20 (hz.symm.trans e) dL_law_33 (by decide) (by decide) rfl (by decide) (law_20 hC hR hs hL hi hk h hn go)
  · exact r_tabIn (tgt := 1097) hC 21 (hz.symm.trans e) dL_law_33 (by decide) (by decide) rfl (by decide) (law_21 hC hR hs hL hi hk h hn go)
  · exact r_tabIn (tgt := 1140) hC 22 (hz.symm.trans e) dL_law_33 (by decide) (by decide) rfl (by decide) (law_22 hC hR hs hL hi hk h hn go)
  · exact r_tabOut (tgt := 1163) hC (by rw [← hz]; exact e) dL_law_33 (by decide) (J.widen (by omega) (by omega) (go σ (h.mono (Nat.le_succ k))))
set_option maxRecDepth 100000 in
set_option maxHeartbeats 4000000 in
theorem law_loop {K : JK} (hC : Cx K cL_law 4 RL) (hR : kRm K = room_1) {b L : Nat} {xs : Nat → Int32} (hs : Scr K b L xs) (hL : L ≤ 3584)
    (hE : ∀ (H : Heap) (locs : List Loc) (ls : Array Slot), (∀ q ∈ locs, kA K q.base) → WJ K H locs 600000 7302250 (F0 (kM K) 1170 ls [.int 1])) :
    ∀ (f k : Nat) (σ : St), 7 * k ≤ L → L < 7 * (k + f) → Sim k σ σ → J K 18 (LL (7 * k)) [] σ (60 + 32 * k) (40000 + 1072 * k) := by
  intro f
  induction f with
  | zero => intro k σ h1 h2; omega
  | succ f ih =>
    intro k σ h1 h2 h
    have eL : nm ((L : Int) - 7) = (L : Int) - 7 := nm_id (by omega)
    have ei : nm ((7 * k : Nat) : Int) = ((7 * k : Nat) : Int) := nm_id (by omega)
    refine r_iload_n hC dL_law_18 rfl ?_
    refine r_aload_n hC dL_law_19 rfl ?_
    refine r_slen hC hs dL_law_20 ?_
    refine r_bipush hC dL_law_21 (by decide) ?_
    refine r_isub hC dL_law_23 ?_
    refine r_icmp_gt (tgt := 1169) hC dL_law_24 (by decide) (fun _ => ?_) (fun hle => ?_)
    · refine r_iconst hC dL_law_1169 ?_
      intro H locs ls hw hl ho
      exact W.widen (by omega) (by omega) (hE H locs ls hw.2.2.2.2.2.2)
    · rw [eL, ei] at hle
      refine law_disp hC hR hs hL (by omega) (by omega) h ⟨by omega, by omega⟩ (fun σ2 hq => ?_)
      refine r_iinc hC dL_law_1163 rfl rfl (by decide) (l' := LL (7 * (k + 1))) ?_ ?_
      · show [_, _, _, some (wi _)] = [_, _, _, some (wi _)]
        rw [show ((7 * k : Nat) : Int) + 7 = ((7 * (k + 1) : Nat) : Int) by omega]
      · refine r_goto (tgt := 18) hC dL_law_1166 (by decide) ?_
        rw [show 60 + 32 * k + 32 = 60 + 32 * (k + 1) by omega, show 40000 + 1072 * k + 1072 = 40000 + 1072 * (k + 1) by omega]
        exact ih (k + 1) σ2 (by omega) (by omega) hq
