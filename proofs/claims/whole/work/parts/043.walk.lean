/-! WALKS 3, printed by wip/whole/gen/mkwalks.py -/
def wp_X4_highestCounter_4 (po : Int → St → Prop) : Nat → Nat → Int → Int → St → Prop
  | 0, _, _, _, _ => False
  | n + 1, a0, x1, x2, σ => (nm (gI σ 26 a0 0) ≤ nm x2 → po x1 σ) ∧
 (nm x2 < nm (gI σ 26 a0 0) → (nm 8 ≤ nm x2 → po x1 σ) ∧
 (nm x2 < nm 8 → (0 ≤ nm x2 ∧ nm x2 < 8) ∧ wp_X4_highestCounter_4 po n a0 (zmax x1 (gI σ 22 a0 (nm x2).toNat)) (x2 + 1) σ))
set_option maxRecDepth 100000 in
set_option maxHeartbeats 4000000 in
theorem j_X4_highestCounter_4 {K : JK} (hR : kRm K = ({ frames := 1, cells := 0, slots := 0, locals := 21 } : Room)) (hC : Cx K cX4_highestCounter 3 RX4) {po : Int → St → Prop} (hM : Mx K (some .int) (PI po)) : ∀ (n : Nat) (a0 : Nat) (x1 : Int) (x2 : Int) (σ : St), wp_X4_highestCounter_4 po n a0 x1 x2 σ → J K 4 [some (wr 15 (some a0)), some (wi x1), some (wi x2)] [] σ 0 0 := by
  intro n
  induction n with
  | zero =>
    intro a0 x1 x2 σ hw
    exact False.elim hw
  | succ n ih =>
    intro a0 x1 x2 σ hw
    unfold wp_X4_highestCounter_4 at hw
    refine r_iload_n hC dX4_highestCounter_4 rfl ?_
    refine r_aload_n hC dX4_highestCounter_5 rfl ?_
    refine gf_X4_25 hC dX4_highestCounter_6 ?_
    refine r_icmp_ge (tgt := 35) hC dX4_highestCounter_9 (by decide) (fun h => ?_) (fun h => ?_)
    · replace hw := hw.1 h
      refine r_iload_n hC dX4_highestCounter_35 rfl ?_
      exact r_ireturn hC hM ⟨_, rfl, hw⟩ (by rw [hR]; decide) (by rw [hR]; decide) dX4_highestCounter_36
    · replace hw := hw.2 h
      refine r_iload_n hC dX4_highestCounter_12 rfl ?_
      refine r_bipush hC dX4_highestCounter_13 (by decide) ?_
      refine r_icmp_ge (tgt := 35) hC dX4_highestCounter_15 (by decide) (fun h => ?_) (fun h => ?_)
      · replace hw := hw.1 h
        refine r_iload_n hC dX4_highestCounter_35 rfl ?_
        exact r_ireturn hC hM ⟨_, rfl, hw⟩ (by rw [hR]; decide) (by rw [hR]; decide) dX4_highestCounter_36
      · replace hw := hw.2 h
        refine r_iload_n hC dX4_highestCounter_18 rfl ?_
        refine r_aload_n hC dX4_highestCounter_19 rfl ?_
        refine gf_X4_9 hC dX4_highestCounter_20 ?_
        refine r_iload_n hC dX4_highestCounter_23 rfl ?_
        refine r_iaload hC rfl (by decide) hw.1 dX4_highestCounter_24 ?_
        replace hw := hw.2
        refine r_mmax hC (wg 690 (by decide +kernel) (by decide +kernel)) w_mmax ⟨(by rw [hR]; decide), (by rw [hR]; decide)⟩ ⟨(by rw [hR]; decide), (by rw [hR]; decide)⟩ (Nat.le_of_ble_eq_true rfl) dX4_highestCounter_25 ?_
        refine r_istore_n (l' := [_, _, _]) hC dX4_highestCounter_28 rfl (by decide) rfl ?_
        refine r_iinc (l' := [_, _, _]) hC dX4_highestCounter_29 rfl rfl (by decide) rfl ?_
        refine r_goto (tgt := 4) hC dX4_highestCounter_32 (by decide) ?_
        exact J.drop2 (ih a0 (zmax x1 (gI σ 22 a0 (nm x2).toNat)) (x2 + 1) σ hw) ⟨rfl, rfl, rfl, trivial⟩
def wp_X4_highestCounter (a0 : Nat) (σ : St) (po : Int → St → Prop) : Prop := ∃ n9, wp_X4_highestCounter_4 po n9 a0 0 0 σ
set_option maxRecDepth 100000 in
set_option maxHeartbeats 4000000 in
theorem c_X4_highestCounter (l : Launch) {a0 : Nat} {σ : St} {po : Int → St → Prop} (hw : wp_X4_highestCounter a0 σ po) : MT l yX4_highestCounter cX4_highestCounter 3 (some .int) ({ frames := 1, cells := 0, slots := 0, locals := 21 } : Room) [wr 15 (some a0)] σ (PI po) := by
  refine MT_of (by decide) (Nat.le_of_ble_eq_true rfl) (fun K hL hR hC hM => ?_)
  subst hL
  unfold wp_X4_highestCounter at hw
  show J K 0 [some (wr 15 (some a0)), none, none] [] σ 0 0
  refine r_iconst hC dX4_highestCounter_0 ?_
  refine r_istore_n (l' := [_, _, _]) hC dX4_highestCounter_1 rfl (by decide) rfl ?_
  refine r_iconst hC dX4_highestCounter_2 ?_
  refine r_istore_n (l' := [_, _, _]) hC dX4_highestCounter_3 rfl (by decide) rfl ?_
  obtain ⟨n9, hw⟩ := hw
  exact J.drop2 (j_X4_highestCounter_4 hR hC hM n9 a0 0 0 σ hw) ⟨rfl, rfl, rfl, trivial⟩
def wp_X4_haveChange_2 (po : Int → St → Prop) : Nat → Nat → Int → St → Prop
  | 0, _, _, _ => False
  | n + 1, a0, x1, σ => (nm (gI σ 26 a0 0) ≤ nm x1 → po 0 σ) ∧
 (nm x1 < nm (gI σ 26 a0 0) → (nm 8 ≤ nm x1 → po 0 σ) ∧
 (nm x1 < nm 8 → (0 ≤ nm x1 ∧ nm x1 < 8) ∧ (nm (gI σ 23 a0 (nm x1).toNat) = 0 → wp_X4_haveChange_2 po n a0 (x1 + 1) σ) ∧
 (nm (gI σ 23 a0 (nm x1).toNat) ≠ 0 → po 1 σ)))
set_option maxRecDepth 100000 in
set_option maxHeartbeats 4000000 in
theorem j_X4_haveChange_2 {K : JK} (hR : kRm K = ({ frames := 0, cells := 0, slots := 0, locals := 0 } : Room)) (hC : Cx K cX4_haveChange 2 RX4) {po : Int → St → Prop} (hM : Mx K (some .boolean) (PI po)) : ∀ (n : Nat) (a0 : Nat) (x1 : Int) (σ : St), wp_X4_haveChange_2 po n a0 x1 σ → J K 2 [some (wr 15 (some a0)), some (wi x1)] [] σ 0 0 := by
  intro n
  induction n with
  | zero =>
    intro a0 x1 σ hw
    exact False.elim hw
  | succ n ih =>
    intro a0 x1 σ hw
    unfold wp_X4_haveChange_2 at hw
    refine r_iload_n hC dX4_haveChange_2 rfl ?_
    refine r_aload_n hC dX4_haveChange_3 rfl ?_
    refine gf_X4_25 hC dX4_haveChange_4 ?_
    refine r_icmp_ge (tgt := 33) hC dX4_haveChange_7 (by decide) (fun h => ?_) (fun h => ?_)
    · replace hw := hw.1 h
      refine r_iconst hC dX4_haveChange_33 ?_
      exact r_zreturn hC hM (by decide) ⟨_, rfl, hw⟩ (by rw [hR]; decide) (by rw [hR]; decide) dX4_haveChange_34
    · replace hw := hw.2 h
      refine r_iload_n hC dX4_haveChange_10 rfl ?_
      refine r_bipush hC dX4_haveChange_11 (by decide) ?_
      refine r_icmp_ge (tgt := 33) hC dX4_haveChange_13 (by decide) (fun h => ?_) (fun h => ?_)
      · replace hw := hw.1 h
        refine r_iconst hC dX4_haveChange_33 ?_
        exact r_zreturn hC hM (by decide) ⟨_, rfl, hw⟩ (by rw [hR]; decide) (by rw [hR]; decide) dX4_haveChange_34
      · replace hw := hw.2 h
        refine r_aload_n hC dX4_haveChange_16 rfl ?_
        refine gf_X4_15 hC dX4_haveChange_17 ?_
        refine r_iload_n hC dX4_haveChange_20 rfl ?_
        refine r_iaload hC rfl (by decide) hw.1 dX4_haveChange_21 ?_
        replace hw := hw.2
        refine r_if_eq (tgt := 27) hC dX4_haveChange_22 (by decide) (fun h => ?_) (fun h => ?_)
        · replace hw := hw.1 h
          refine r_iinc (l' := [_, _]) hC dX4_haveChange_27 rfl rfl (by decide) rfl ?_
          refine r_goto (tgt := 2) hC dX4_haveChange_30 (by decide) ?_
          exact J.drop2 (ih a0 (x1 + 1) σ hw) ⟨rfl, rfl, trivial⟩
        · replace hw := hw.2 h
          refine r_iconst hC dX4_haveChange_25 ?_
          exact r_zreturn hC hM (by decide) ⟨_, rfl, hw⟩ (by rw [hR]; decide) (by rw [hR]; decide) dX4_haveChange_26
def wp_X4_haveChange (a0 : Nat) (σ : St) (po : Int → St → Prop) : Prop := ∃ n9, wp_X4_haveChange_2 po n9 a0 0 σ
set_option maxRecDepth 100000 in
set_option maxHeartbeats 4000000 in
theorem c_X4_haveChange (l : Launch) {a0 : Nat} {σ : St} {po : Int → St → Prop} (hw : wp_X4_haveChange a0 σ po) : MT l yX4_haveChange cX4_haveChange 2 (some .boolean) ({ frames := 0, cells := 0, slots := 0, locals := 0 } : Room) [wr 15 (some a0)] σ (PI po) := by
  refine MT_of (by decide) (Nat.le_of_ble_eq_true rfl) (fun K hL hR hC hM => ?_)
  subst hL
  unfold wp_X4_haveChange at hw
  show J K 0 [some (wr 15 (some a0)), none] [] σ 0 0
  refine r_iconst hC dX4_haveChange_0 ?_
  refine r_istore_n (l' := [_, _]) hC dX4_haveChange_1 rfl (by decide) rfl ?_
  obtain ⟨n9, hw⟩ := hw
  exact J.drop2 (j_X4_haveChange_2 hR hC hM n9 a0 0 σ hw) ⟨rfl, rfl, trivial⟩
def wp_X4_stoppedNoWait (a0 : Nat) (σ : St) (po : Int → St → Prop) : Prop := wp_X7_isWithin (gI σ 27 a0 0) 7 σ (fun r101 s101 => (nm r101 = 0 → po 0 s101) ∧
 (nm r101 ≠ 0 → (0 ≤ nm (gI s101 27 a0 0) ∧ nm (gI s101 27 a0 0) < 8) ∧ (nm (zand (gI s101 24 a0 (nm (gI s101 27 a0 0)).toNat) 1) = 0 → po 0 s101) ∧
 (nm (zand (gI s101 24 a0 (nm (gI s101 27 a0 0)).toNat) 1) ≠ 0 → po 1 s101)))
set_option maxRecDepth 100000 in
set_option maxHeartbeats 4000000 in
theorem c_X4_stoppedNoWait (l : Launch) {a0 : Nat} {σ : St} {po : Int → St → Prop} (hw : wp_X4_stoppedNoWait a0 σ po) : MT l yX4_stoppedNoWait cX4_stoppedNoWait 1 (some .boolean) ({ frames := 1, cells := 0, slots := 0, locals := 21 } : Room) [wr 15 (some a0)] σ (PI po) := by
  refine MT_of (by decide) (Nat.le_of_ble_eq_true rfl) (fun K hL hR hC hM => ?_)
  subst hL
  unfold wp_X4_stoppedNoWait at hw
  show J K 0 [some (wr 15 (some a0))] [] σ 0 0
  refine r_aload_n hC dX4_stoppedNoWait_0 rfl ?_
  refine gf_X4_28 hC dX4_stoppedNoWait_1 ?_
  refine r_bipush hC dX4_stoppedNoWait_4 (by decide) ?_
  refine cl_X4_37 hC (c_X7_isWithin (kL K) hw) (by rw [hR]; decide) (Nat.le_of_ble_eq_true rfl) dX4_stoppedNoWait_6 (fun r101 s101 hq => ?_)
  clear hw
  have hw := hq
  clear hq
  refine r_if_eq (tgt := 30) hC dX4_stoppedNoWait_9 (by decide) (fun h => ?_) (fun h => ?_)
  · replace hw := hw.1 h
    refine r_iconst hC dX4_stoppedNoWait_30 ?_
    exact r_zreturn hC hM (by decide) ⟨_, rfl, hw⟩ (by rw [hR]; decide) (by rw [hR]; decide) dX4_stoppedNoWait_31
  · replace hw := hw.2 h
    refine r_aload_n hC dX4_stoppedNoWait_12 rfl ?_
    refine gf_X4_18 hC dX4_stoppedNoWait_13 ?_
    refine r_aload_n hC dX4_stoppedNoWait_16 rfl ?_
    refine gf_X4_28 hC dX4_stoppedNoWait_17 ?_
    refine r_iaload hC rfl (by decide) hw.1 dX4_stoppedNoWait_20 ?_
    replace hw := hw.2
    refine r_iconst hC dX4_stoppedNoWait_21 ?_
    refine r_iand hC dX4_stoppedNoWait_22 ?_
    refine r_if_eq (tgt := 30) hC dX4_stoppedNoWait_23 (by decide) (fun h => ?_) (fun h => ?_)
    · replace hw := hw.1 h
      refine r_iconst hC dX4_stoppedNoWait_30 ?_
      exact r_zreturn hC hM (by decide) ⟨_, rfl, hw⟩ (by rw [hR]; decide) (by rw [hR]; decide) dX4_stoppedNoWait_31
    · replace hw := hw.2 h
      refine r_iconst hC dX4_stoppedNoWait_26 ?_
      refine r_goto (tgt := 31) hC dX4_stoppedNoWait_27 (by decide) ?_
      exact r_zreturn hC hM (by decide) ⟨_, rfl, hw⟩ (by rw [hR]; decide) (by rw [hR]; decide) dX4_stoppedNoWait_31
def wp_X7_stepOn_58 (po : Int → St → Prop) (o1 : Option Nat) (o3 : Option Nat) (o4 : Option Nat) (y0 : Int) (p1 : Option Nat) (p2 : Option Nat) (σ : St) : Prop := ∃ a103, p2 = some a103 ∧ 12 ≤ a103 ∧ wp_X5_grantsAll a103 p1 y0 σ (fun r103 s105 => (nm r103 ≠ 0 → ∃ a104, o1 = some a104 ∧ ∃ a105, o4 = some a105 ∧ 12 ≤ a105 ∧ wp_X0_attempt a105 o3 (gI s105 10 a104 0) s105 (fun r104 s106 => (nm r104 ≠ nm 1 → (nm r104 ≠ 0 → po r104 s106) ∧
 (nm r104 = 0 → (nm (gI s106 51 a105 0) = 0 → po r104 s106) ∧
 (nm (gI s106 51 a105 0) ≠ 0 → wp_X7_serveAll (some a105) s106 (fun s107 => po r104 s107)))) ∧
 (nm r104 = nm 1 → ∃ a106, o3 = some a106 ∧ wp_X4_stoppedNoWait a106 s106 (fun r105 s108 => (nm r105 = 0 → wp_X7_beginWait (some a104) 3 (some a105) s108 (fun s109 => po (-10) s109)) ∧
 (nm r105 ≠ 0 → po (-11) s108))))) ∧
 (nm r103 = 0 → po (-6) s105))
set_option maxRecDepth 100000 in
set_option maxHeartbeats 4000000 in
theorem j_X7_stepOn_58 {K : JK} (hR : kRm K = ({ frames := 5, cells := 0, slots := 0, locals := 119 } : Room)) (hC : Cx K cX7_stepOn 6 RX7) {po : Int → St → Prop} (hM : Mx K (some .int) (PI po)) : ∀ (o1 : Option Nat) (o3 : Option Nat) (o4 : Option Nat) (y0 : Int) (p1 : Option Nat) (p2 : Option Nat) (σ : St), wp_X7_stepOn_58 po o1 o3 o4 y0 p1 p2 σ → J K 58 [some (wr 0 (some 0)), some (wr 10 o1), none, some (wr 15 o3), some (wr 20 o4), none] [wi y0, wr 10 p1, wr 20 p2] σ 0 0 := by
  intro o1 o3 o4 y0 p1 p2 σ hw
  unfold wp_X7_stepOn_58 at hw
  obtain ⟨a103, rfl, hw⟩ := hw
  have h102 := hw.1
  replace hw := hw.2
  refine cl_X7_388 hC h102 (c_X5_grantsAll (kL K) hw) (by rw [hR]; decide) (Nat.le_of_ble_eq_true rfl) dX7_stepOn_58 (fun r103 s105 hq => ?_)
  clear hw
  have hw := hq
  clear hq
  refine r_if_ne (tgt := 67) hC dX7_stepOn_61 (by decide) (fun h => ?_) (fun h => ?_)
  · replace hw := hw.1 h
    refine r_aload hC dX7_stepOn_67 rfl ?_
    refine r_aload_n hC dX7_stepOn_69 rfl ?_
    refine r_aload_n hC dX7_stepOn_70 rfl ?_
    obtain ⟨a104, rfl, hw⟩ := hw
    refine gf_X7_60 hC dX7_stepOn_71 ?_
    obtain ⟨a105, rfl, hw⟩ := hw
    have h103 := hw.1
    replace hw := hw.2
    refine cl_X7_389 hC h103 (c_X0_attempt (kL K) hw) (by rw [hR]; decide) (Nat.le_of_ble_eq_true rfl) dX7_stepOn_74 (fun r104 s106 hq => ?_)
    clear hw
    have hw := hq
    clear hq
    refine r_istore (l' := [_, _, _, _, _, _]) hC dX7_stepOn_77 rfl (by decide) rfl ?_
    refine r_iload hC dX7_stepOn_79 rfl ?_
    refine r_iconst hC dX7_stepOn_81 ?_
    refine r_icmp_ne (tgt := 106) hC dX7_stepOn_82 (by decide) (fun h => ?_) (fun h => ?_)
    · replace hw := hw.1 h
      refine r_iload hC dX7_stepOn_106 rfl ?_
      refine r_if_ne (tgt := 125) hC dX7_stepOn_108 (by decide) (fun h => ?_) (fun h => ?_)
      · replace hw := hw.1 h
        refine r_iload hC dX7_stepOn_125 rfl ?_
        exact r_ireturn hC hM ⟨_, rfl, hw⟩ (by rw [hR]; decide) (by rw [hR]; decide) dX7_stepOn_127
      · replace hw := hw.2 h
        refine r_aload hC dX7_stepOn_111 rfl ?_
        refine gf_X7_396 hC h103 dX7_stepOn_113 ?_
        refine r_if_eq (tgt := 125) hC dX7_stepOn_116 (by decide) (fun h => ?_) (fun h => ?_)
        · replace hw := hw.1 h
          refine r_iload hC dX7_stepOn_125 rfl ?_
          exact r_ireturn hC hM ⟨_, rfl, hw⟩ (by rw [hR]; decide) (by rw [hR]; decide) dX7_stepOn_127
        · replace hw := hw.2 h
          refine r_aload_n hC dX7_stepOn_119 rfl ?_
          refine r_aload hC dX7_stepOn_120 rfl ?_
          refine cl_X7_69 hC (c_X7_serveAll (kL K) hw) (by rw [hR]; decide) (Nat.le_of_ble_eq_true rfl) dX7_stepOn_122 (fun s107 hq => ?_)
          clear hw
          have hw := hq
          clear hq
          refine r_iload hC dX7_stepOn_125 rfl ?_
          exact r_ireturn hC hM ⟨_, rfl, hw⟩ (by rw [hR]; decide) (by rw [hR]; decide) dX7_stepOn_127
    · replace hw := hw.2 h
      refine r_aload_n hC dX7_stepOn_85 rfl ?_
      obtain ⟨a106, rfl, hw⟩ := hw
      refine cl_X7_393 hC (c_X4_stoppedNoWait (kL K) hw) (by rw [hR]; decide) (Nat.le_of_ble_eq_true rfl) dX7_stepOn_86 (fun r105 s108 hq => ?_)
      clear hw
      have hw := hq
      clear hq
      refine r_if_eq (tgt := 95) hC dX7_stepOn_89 (by decide) (fun h => ?_) (fun h => ?_)
      · replace hw := hw.1 h
        refine r_aload_n hC dX7_stepOn_95 rfl ?_
        refine r_aload_n hC dX7_stepOn_96 rfl ?_
        refine r_iconst hC dX7_stepOn_97 ?_
        refine r_aload hC dX7_stepOn_98 rfl ?_
        refine cl_X7_336 hC (c_X7_beginWait (kL K) hw) (by rw [hR]; decide) (Nat.le_of_ble_eq_true rfl) dX7_stepOn_100 (fun s109 hq => ?_)
        clear hw
        have hw := hq
        clear hq
        refine r_bipush hC dX7_stepOn_103 (by decide) ?_
        exact r_ireturn hC hM ⟨_, rfl, hw⟩ (by rw [hR]; decide) (by rw [hR]; decide) dX7_stepOn_105
      · replace hw := hw.2 h
        refine r_bipush hC dX7_stepOn_92 (by decide) ?_
        exact r_ireturn hC hM ⟨_, rfl, hw⟩ (by rw [hR]; decide) (by rw [hR]; decide) dX7_stepOn_94
  · replace hw := hw.2 h
    refine r_bipush hC dX7_stepOn_64 (by decide) ?_
    exact r_ireturn hC hM ⟨_, rfl, hw⟩ (by rw [hR]; decide) (by rw [hR]; decide) dX7_stepOn_66
def wp_X7_stepOn (o1 : Option Nat) (x2 : Int) (σ : St) (po : Int → St → Prop) : Prop := ∃ a101, o1 = some a101 ∧ wp_X4_takeUp a101 σ (fun s101 => wp_X7_setById x2 s101 (fun o101 s102 => (o101 = none → po (-5) s102) ∧
 (∀ a102, o101 = some a102 → (nm (gI s102 26 a101 0) = 0 → po (-5) s102) ∧
 (nm (gI s102 26 a101 0) ≠ 0 → wp_X4_highestCounter a101 s102 (fun r101 s103 => 12 ≤ a102 ∧ (nm r101 < nm (gI s103 45 a102 0) → wp_X4_haveChange a101 s103 (fun r102 s104 => (nm r102 = 0 → wp_X7_stepOn_58 po (some a101) (some a101) (some a102) 4 (some a101) (some a102) s104) ∧
 (nm r102 ≠ 0 → wp_X7_stepOn_58 po (some a101) (some a101) (some a102) 2 (some a101) (some a102) s104))) ∧
 (nm (gI s103 45 a102 0) ≤ nm r101 → po (-5) s103))))))
set_option maxRecDepth 100000 in
set_option maxHeartbeats 4000000 in
theorem c_X7_stepOn (l : Launch) {o1 : Option Nat} {x2 : Int} {σ : St} {po : Int → St → Prop} (hw : wp_X7_stepOn o1 x2 σ po) : MT l yX7_stepOn cX7_stepOn 6 (some .int) ({ frames := 5, cells := 0, slots := 0, locals := 119 } : Room) [wr 0 (some 0), wr 10 o1, wi x2] σ (PI po) := by
  refine MT_of (by decide) (Nat.le_of_ble_eq_true rfl) (fun K hL hR hC hM => ?_)
  subst hL
  unfold wp_X7_stepOn at hw
  show J K 0 [some (wr 0 (some 0)), some (wr 10 o1), some (wi x2), none, none, none] [] σ 0 0
  refine r_aload_n hC dX7_stepOn_0 rfl ?_
  obtain ⟨a101, rfl, hw⟩ := hw
  refine gf_X7_120 hC dX7_stepOn_1 ?_
  refine r_astore_n (l' := [_, _, _, _, _, _]) hC dX7_stepOn_4 rfl (by decide) rfl ?_
  refine r_aload_n hC dX7_stepOn_5 rfl ?_
  refine cl_X7_375 hC (c_X4_takeUp (kL K) hw) (by rw [hR]; decide) (Nat.le_of_ble_eq_true rfl) dX7_stepOn_6 (fun s101 hq => ?_)
  clear hw
  have hw := hq
  clear hq
  refine r_aload_n hC dX7_stepOn_9 rfl ?_
  refine r_iload_n hC dX7_stepOn_10 rfl ?_
  refine cl_X7_378 hC (c_X7_setById (kL K) hw) (by rw [hR]; decide) (Nat.le_of_ble_eq_true rfl) dX7_stepOn_11 (fun o101 s102 hq => ?_)
  clear hw
  have hw := hq
  clear hq
  refine r_astore (l' := [_, _, _, _, _, _]) hC dX7_stepOn_14 rfl (by decide) rfl ?_
  refine r_aload hC dX7_stepOn_16 rfl ?_
  refine r_ifnull (tgt := 40) hC dX7_stepOn_18 (by decide) (fun h => ?_) (fun a102 h => ?_)
  · replace hw := hw.1 h
    subst h
    refine r_bipush hC dX7_stepOn_40 (by decide) ?_
    exact r_ireturn hC hM ⟨_, rfl, hw⟩ (by rw [hR]; decide) (by rw [hR]; decide) dX7_stepOn_42
  · replace hw := hw.2 a102 h
    subst h
    refine r_aload_n hC dX7_stepOn_21 rfl ?_
    refine gf_X7_381 hC dX7_stepOn_22 ?_
    refine r_if_eq (tgt := 40) hC dX7_stepOn_25 (by decide) (fun h => ?_) (fun h => ?_)
    · replace hw := hw.1 h
      refine r_bipush hC dX7_stepOn_40 (by decide) ?_
      exact r_ireturn hC hM ⟨_, rfl, hw⟩ (by rw [hR]; decide) (by rw [hR]; decide) dX7_stepOn_42
    · replace hw := hw.2 h
      refine r_aload_n hC dX7_stepOn_28 rfl ?_
      refine cl_X7_382 hC (c_X4_highestCounter (kL K) hw) (by rw [hR]; decide) (Nat.le_of_ble_eq_true rfl) dX7_stepOn_29 (fun r101 s103 hq => ?_)
      clear hw
      have hw := hq
      clear hq
      refine r_aload hC dX7_stepOn_32 rfl ?_
      have h101 := hw.1
      replace hw := hw.2
      refine gf_X7_176 hC h101 dX7_stepOn_34 ?_
      refine r_icmp_lt (tgt := 43) hC dX7_stepOn_37 (by decide) (fun h => ?_) (fun h => ?_)
      · replace hw := hw.1 h
        refine r_aload hC dX7_stepOn_43 rfl ?_
        refine r_aload_n hC dX7_stepOn_45 rfl ?_
        refine r_aload_n hC dX7_stepOn_46 rfl ?_
        refine cl_X7_385 hC (c_X4_haveChange (kL K) hw) (by rw [hR]; decide) (Nat.le_of_ble_eq_true rfl) dX7_stepOn_47 (fun r102 s104 hq => ?_)
        clear hw
        have hw := hq
        clear hq
        refine r_if_eq (tgt := 57) hC dX7_stepOn_50 (by decide) (fun h => ?_) (fun h => ?_)
        · replace hw := hw.1 h
          refine r_iconst hC dX7_stepOn_57 ?_
          exact J.drop2 (j_X7_stepOn_58 hR hC hM (some a101) (some a101) (some a102) 4 (some a101) (some a102) s104 hw) ⟨rfl, rfl, rfl, rfl, trivial⟩
        · replace hw := hw.2 h
          refine r_iconst hC dX7_stepOn_53 ?_
          refine r_goto (tgt := 58) hC dX7_stepOn_54 (by decide) ?_
          exact J.drop2 (j_X7_stepOn_58 hR hC hM (some a101) (some a101) (some a102) 2 (some a101) (some a102) s104 hw) ⟨rfl, rfl, rfl, rfl, trivial⟩
      · replace hw := hw.2 h
        refine r_bipush hC dX7_stepOn_40 (by decide) ?_
        exact r_ireturn hC hM ⟨_, rfl, hw⟩ (by rw [hR]; decide) (by rw [hR]; decide) dX7_stepOn_42
def wp_X7_steps (x1 : Int) (x2 : Int) (σ : St) (po : Int → St → Prop) : Prop := wp_X7_processAt x1 σ (fun o101 s101 => (o101 = none → po (-2) s101) ∧
 (∀ a101, o101 = some a101 → wp_X2_isFree a101 s101 (fun r101 s102 => (nm r101 = 0 → po (-3) s102) ∧
 (nm r101 ≠ 0 → wp_X7_stepOn (some a101) x2 s102 (fun r102 s103 => wp_X2_told a101 r102 s103 (fun r103 s104 => po r103 s104))))))
set_option maxRecDepth 100000 in
set_option maxHeartbeats 4000000 in
theorem c_X7_steps (l : Launch) {x1 : Int} {x2 : Int} {σ : St} {po : Int → St → Prop} (hw : wp_X7_steps x1 x2 σ po) : MT l yX7_steps cX7_steps 4 (some .int) ({ frames := 6, cells := 0, slots := 0, locals := 144 } : Room) [wr 0 (some 0), wi x1, wi x2] σ (PI po) := by
  refine MT_of (by decide) (Nat.le_of_ble_eq_true rfl) (fun K hL hR hC hM => ?_)
  subst hL
  unfold wp_X7_steps at hw
  show J K 0 [some (wr 0 (some 0)), some (wi x1), some (wi x2), none] [] σ 0 0
  refine r_aload_n hC dX7_steps_0 rfl ?_
  refine r_iload_n hC dX7_steps_1 rfl ?_
  refine cl_X7_41 hC (c_X7_processAt (kL K) hw) (by rw [hR]; decide) (Nat.le_of_ble_eq_true rfl) dX7_steps_2 (fun o101 s101 hq => ?_)
  clear hw
  have hw := hq
  clear hq
  refine r_astore_n (l' := [_, _, _, _]) hC dX7_steps_5 rfl (by decide) rfl ?_
  refine r_aload_n hC dX7_steps_6 rfl ?_
  refine r_ifnonnull (tgt := 13) hC dX7_steps_7 (by decide) (fun a101 h => ?_) (fun h => ?_)
  · replace hw := hw.2 a101 h
    subst h
    refine r_aload_n hC dX7_steps_13 rfl ?_
    refine cl_X7_86 hC (c_X2_isFree (kL K) hw) (by rw [hR]; decide) (Nat.le_of_ble_eq_true rfl) dX7_steps_14 (fun r101 s102 hq => ?_)
    clear hw
    have hw := hq
    clear hq
    refine r_if_eq (tgt := 33) hC dX7_steps_17 (by decide) (fun h => ?_) (fun h => ?_)
    · replace hw := hw.1 h
      refine r_bipush hC dX7_steps_33 (by decide) ?_
      exact r_ireturn hC hM ⟨_, rfl, hw⟩ (by rw [hR]; decide) (by rw [hR]; decide) dX7_steps_35
    · replace hw := hw.2 h
      refine r_aload_n hC dX7_steps_20 rfl ?_
      refine r_aload_n hC dX7_steps_21 rfl ?_
      refine r_aload_n hC dX7_steps_22 rfl ?_
      refine r_iload_n hC dX7_steps_23 rfl ?_
      refine cl_X7_130 hC (c_X7_stepOn (kL K) hw) (by rw [hR]; decide) (Nat.le_of_ble_eq_true rfl) dX7_steps_24 (fun r102 s103 hq => ?_)
      clear hw
      have hw := hq
      clear hq
      refine cl_X7_94 hC (c_X2_told (kL K) hw) (by rw [hR]; decide) (Nat.le_of_ble_eq_true rfl) dX7_steps_27 (fun r103 s104 hq => ?_)
      clear hw
      have hw := hq
      clear hq
      refine r_goto (tgt := 35) hC dX7_steps_30 (by decide) ?_
      exact r_ireturn hC hM ⟨_, rfl, hw⟩ (by rw [hR]; decide) (by rw [hR]; decide) dX7_steps_35
  · replace hw := hw.1 h
    subst h
    refine r_bipush hC dX7_steps_10 (by decide) ?_
    exact r_ireturn hC hM ⟨_, rfl, hw⟩ (by rw [hR]; decide) (by rw [hR]; decide) dX7_steps_12
def wp_X0_put_44 (po : Int → St → Prop) : Nat → Nat → Int → Int → Int → St → Prop
  | 0, _, _, _, _, _ => False
  | n + 1, a0, x1, x4, x5, σ => (nm 16 ≤ nm x5 → (x4 = 0 ∨ x4 = 1) ∧ po x4 σ) ∧
 (nm x5 < nm 16 → 12 ≤ a0 ∧ wp_X0_putUndo a0 x5 x1 0 σ (fun s104 => wp_X0_put_44 po n a0 x1 x4 (x5 + 1) s104))
set_option maxRecDepth 100000 in
set_option maxHeartbeats 4000000 in
theorem j_X0_put_44 {K : JK} (hR : kRm K = ({ frames := 1, cells := 0, slots := 0, locals := 23 } : Room)) (hC : Cx K cX0_put 6 RX0) {po : Int → St → Prop} (hM : Mx K (some .boolean) (PI po)) : ∀ (n : Nat) (a0 : Nat) (x1 : Int) (x4 : Int) (x5 : Int) (σ : St), wp_X0_put_44 po n a0 x1 x4 x5 σ → J K 44 [some (wr 20 (some a0)), some (wi x1), none, none, some (wi x4), some (wi x5)] [] σ 0 0 := by
  intro n
  induction n with
  | zero =>
    intro a0 x1 x4 x5 σ hw
    exact False.elim hw
  | succ n ih =>
    intro a0 x1 x4 x5 σ hw
    unfold wp_X0_put_44 at hw
    refine r_iload hC dX0_put_44 rfl ?_
    refine r_bipush hC dX0_put_46 (by decide) ?_
    refine r_icmp_ge (tgt := 65) hC dX0_put_48 (by decide) (fun h => ?_) (fun h => ?_)
    · replace hw := hw.1 h
      refine r_iload hC dX0_put_65 rfl ?_
      exact r_zreturn hC hM hw.1 ⟨_, rfl, hw.2⟩ (by rw [hR]; decide) (by rw [hR]; decide) dX0_put_67
    · replace hw := hw.2 h
      refine r_aload_n hC dX0_put_51 rfl ?_
      refine r_iload hC dX0_put_52 rfl ?_
      refine r_iload_n hC dX0_put_54 rfl ?_
      refine r_iconst hC dX0_put_55 ?_
      have h102 := hw.1
      replace hw := hw.2
      refine cl_X0_43 hC h102 (c_X0_putUndo (kL K) hw) (by rw [hR]; decide) (Nat.le_of_ble_eq_true rfl) dX0_put_56 (fun s104 hq => ?_)
      clear hw
      have hw := hq
      clear hq
      refine r_iinc (l' := [_, _, _, _, _, _]) hC dX0_put_59 rfl rfl (by decide) rfl ?_
      refine r_goto (tgt := 44) hC dX0_put_62 (by decide) ?_
      exact J.drop2 (ih a0 x1 x4 (x5 + 1) s104 hw) ⟨rfl, rfl, rfl, rfl, trivial⟩
def wp_X0_put (a0 : Nat) (x1 : Int) (x2 : Int) (x3 : Int) (σ : St) (po : Int → St → Prop) : Prop := 12 ≤ a0 ∧ wp_X0_hasCounter a0 x1 σ (fun r101 s101 => (nm r101 ≠ 0 → (0 ≤ nm x1 ∧ nm x1 < 8) ∧ (nm (gI s101 46 a0 (nm x1).toNat) = nm x2 → (0 ≤ nm x1 ∧ nm x1 < 8) ∧ ∀ s102, s102 = uI s101 46 a0 (nm x1).toNat x2 → (0 ≤ nm x1 ∧ nm x1 < 8) ∧ ∀ s103, s103 = uI s102 47 a0 (nm x1).toNat x3 → ∃ n9, wp_X0_put_44 po n9 a0 x1 0 0 s103) ∧
 (nm (gI s101 46 a0 (nm x1).toNat) ≠ nm x2 → (0 ≤ nm x1 ∧ nm x1 < 8) ∧ ∀ s105, s105 = uI s101 46 a0 (nm x1).toNat x2 → (0 ≤ nm x1 ∧ nm x1 < 8) ∧ ∀ s106, s106 = uI s105 47 a0 (nm x1).toNat x3 → ∃ n9, wp_X0_put_44 po n9 a0 x1 1 0 s106)) ∧
 (nm r101 = 0 → po 0 s101))
set_option maxRecDepth 100000 in
set_option maxHeartbeats 4000000 in
theorem c_X0_put (l : Launch) {a0 : Nat} {x1 : Int} {x2 : Int} {x3 : Int} {σ : St} {po : Int → St → Prop} (hw : wp_X0_put a0 x1 x2 x3 σ po) : MT l yX0_put cX0_put 6 (some .boolean) ({ frames := 1, cells := 0, slots := 0, locals := 23 } : Room) [wr 20 (some a0), wi x1, wi x2, wi x3] σ (PI po) := by
  refine MT_of (by decide) (Nat.le_of_ble_eq_true rfl) (fun K hL hR hC hM => ?_)
  subst hL
  unfold wp_X0_put at hw
  show J K 0 [some (wr 20 (some a0)), some (wi x1), some (wi x2), some (wi x3), none, none] [] σ 0 0
  refine r_aload_n hC dX0_put_0 rfl ?_
  refine r_iload_n hC dX0_put_1 rfl ?_
  have h101 := hw.1
  replace hw := hw.2
  refine cl_X0_35 hC h101 (c_X0_hasCounter (kL K) hw) (by rw [hR]; decide) (Nat.le_of_ble_eq_true rfl) dX0_put_2 (fun r101 s101 hq => ?_)
  clear hw
  have hw := hq
  clear hq
  refine r_if_ne (tgt := 10) hC dX0_put_5 (by decide) (fun h => ?_) (fun h => ?_)
  · replace hw := hw.1 h
    refine r_aload_n hC dX0_put_10 rfl ?_
    refine gf_X0_15 hC h101 dX0_put_11 ?_
    refine r_iload_n hC dX0_put_14 rfl ?_
    refine r_iaload hC rfl (by decide) hw.1 dX0_put_15 ?_
    replace hw := hw.2
    refine r_iload_n hC dX0_put_16 rfl ?_
    refine r_icmp_eq (tgt := 24) hC dX0_put_17 (by decide) (fun h => ?_) (fun h => ?_)
    · replace hw := hw.1 h
      refine r_iconst hC dX0_put_24 ?_
      refine r_istore (l' := [_, _, _, _, _, _]) hC dX0_put_25 rfl (by decide) rfl ?_
      refine r_aload_n hC dX0_put_27 rfl ?_
      refine gf_X0_15 hC h101 dX0_put_28 ?_
      refine r_iload_n hC dX0_put_31 rfl ?_
      refine r_iload_n hC dX0_put_32 rfl ?_
      refine r_iastore hC rfl (by decide) hw.1 dX0_put_33 (fun s102 e9 => ?_)
      replace hw := hw.2 s102 e9
      clear e9
      refine r_aload_n hC dX0_put_34 rfl ?_
      refine gf_X0_19 hC h101 dX0_put_35 ?_
      refine r_iload_n hC dX0_put_38 rfl ?_
      refine r_iload_n hC dX0_put_39 rfl ?_
      refine r_iastore hC rfl (by decide) hw.1 dX0_put_40 (fun s103 e9 => ?_)
      replace hw := hw.2 s103 e9
      clear e9
      refine r_iconst hC dX0_put_41 ?_
      refine r_istore (l' := [_, _, _, _, _, _]) hC dX0_put_42 rfl (by decide) rfl ?_
      obtain ⟨n9, hw⟩ := hw
      exact J.drop2 (j_X0_put_44 hR hC hM n9 a0 x1 0 0 s103 hw) ⟨rfl, rfl, rfl, rfl, trivial⟩
    · replace hw := hw.2 h
      refine r_iconst hC dX0_put_20 ?_
      refine r_goto (tgt := 25) hC dX0_put_21 (by decide) ?_
      refine r_istore (l' := [_, _, _, _, _, _]) hC dX0_put_25 rfl (by decide) rfl ?_
      refine r_aload_n hC dX0_put_27 rfl ?_
      refine gf_X0_15 hC h101 dX0_put_28 ?_
      refine r_iload_n hC dX0_put_31 rfl ?_
      refine r_iload_n hC dX0_put_32 rfl ?_
      refine r_iastore hC rfl (by decide) hw.1 dX0_put_33 (fun s105 e9 => ?_)
      replace hw := hw.2 s105 e9
      clear e9
      refine r_aload_n hC dX0_put_34 rfl ?_
      refine gf_X0_19 hC h101 dX0_put_35 ?_
      refine r_iload_n hC dX0_put_38 rfl ?_
      refine r_iload_n hC dX0_put_39 rfl ?_
      refine r_iastore hC rfl (by decide) hw.1 dX0_put_40 (fun s106 e9 => ?_)
      replace hw := hw.2 s106 e9
      clear e9
      refine r_iconst hC dX0_put_41 ?_
      refine r_istore (l' := [_, _, _, _, _, _]) hC dX0_put_42 rfl (by decide) rfl ?_
      obtain ⟨n9, hw⟩ := hw
      exact J.drop2 (j_X0_put_44 hR hC hM n9 a0 x1 1 0 s106 hw) ⟨rfl, rfl, rfl, rfl, trivial⟩
  · replace hw := hw.2 h
    refine r_iconst hC dX0_put_8 ?_
    exact r_zreturn hC hM (by decide) ⟨_, rfl, hw⟩ (by rw [hR]; decide) (by rw [hR]; decide) dX0_put_9
def wp_X7_changeValue (o1 : Option Nat) (x2 : Int) (x3 : Int) (x4 : Int) (σ : St) (po : Int → St → Prop) : Prop := wp_X7_isWithin x4 32767 σ (fun r101 s101 => (nm r101 ≠ 0 → wp_X7_setById x2 s101 (fun o101 s102 => (o101 = none → po (-5) s102) ∧
 (∀ a101, o101 = some a101 → 12 ≤ a101 ∧ wp_X0_hasCounter a101 x3 s102 (fun r102 s103 => (nm r102 ≠ 0 → wp_X5_grantsAll a101 o1 2 s103 (fun r103 s104 => (nm r103 ≠ 0 → ∃ a102, o1 = some a102 ∧ wp_X0_put a101 x3 x4 (gI s104 10 a102 0) s104 (fun r104 s105 => (nm r104 = 0 → po 0 s105) ∧
 (nm r104 ≠ 0 → wp_X7_serveAll (some a101) s105 (fun s106 => po 0 s106)))) ∧
 (nm r103 = 0 → po (-6) s104))) ∧
 (nm r102 = 0 → po (-5) s103))))) ∧
 (nm r101 = 0 → po (-4) s101))
set_option maxRecDepth 100000 in
set_option maxHeartbeats 4000000 in
theorem c_X7_changeValue (l : Launch) {o1 : Option Nat} {x2 : Int} {x3 : Int} {x4 : Int} {σ : St} {po : Int → St → Prop} (hw : wp_X7_changeValue o1 x2 x3 x4 σ po) : MT l yX7_changeValue cX7_changeValue 6 (some .int) ({ frames := 5, cells := 0, slots := 0, locals := 119 } : Room) [wr 0 (some 0), wr 10 o1, wi x2, wi x3, wi x4] σ (PI po) := by
  refine MT_of (by decide) (Nat.le_of_ble_eq_true rfl) (fun K hL hR hC hM => ?_)
  subst hL
  unfold wp_X7_changeValue at hw
  show J K 0 [some (wr 0 (some 0)), some (wr 10 o1), some (wi x2), some (wi x3), some (wi x4), none] [] σ 0 0
  refine r_iload hC dX7_changeValue_0 rfl ?_
  refine r_sipush hC dX7_changeValue_2 (by decide) ?_
  refine cl_X7_34 hC (c_X7_isWithin (kL K) hw) (by rw [hR]; decide) (Nat.le_of_ble_eq_true rfl) dX7_changeValue_5 (fun r101 s101 hq => ?_)
  clear hw
  have hw := hq
  clear hq
  refine r_if_ne (tgt := 14) hC dX7_changeValue_8 (by decide) (fun h => ?_) (fun h => ?_)
  · replace hw := hw.1 h
    refine r_aload_n hC dX7_changeValue_14 rfl ?_
    refine r_iload_n hC dX7_changeValue_15 rfl ?_
    refine cl_X7_378 hC (c_X7_setById (kL K) hw) (by rw [hR]; decide) (Nat.le_of_ble_eq_true rfl) dX7_changeValue_16 (fun o101 s102 hq => ?_)
    clear hw
    have hw := hq
    clear hq
    refine r_astore (l' := [_, _, _, _, _, _]) hC dX7_changeValue_19 rfl (by decide) rfl ?_
    refine r_aload hC dX7_changeValue_21 rfl ?_
    refine r_ifnull (tgt := 35) hC dX7_changeValue_23 (by decide) (fun h => ?_) (fun a101 h => ?_)
    · replace hw := hw.1 h
      subst h
      refine r_bipush hC dX7_changeValue_35 (by decide) ?_
      exact r_ireturn hC hM ⟨_, rfl, hw⟩ (by rw [hR]; decide) (by rw [hR]; decide) dX7_changeValue_37
    · replace hw := hw.2 a101 h
      subst h
      refine r_aload hC dX7_changeValue_26 rfl ?_
      refine r_iload_n hC dX7_changeValue_28 rfl ?_
      have h101 := hw.1
      replace hw := hw.2
      refine cl_X7_178 hC h101 (c_X0_hasCounter (kL K) hw) (by rw [hR]; decide) (Nat.le_of_ble_eq_true rfl) dX7_changeValue_29 (fun r102 s103 hq => ?_)
      clear hw
      have hw := hq
      clear hq
      refine r_if_ne (tgt := 38) hC dX7_changeValue_32 (by decide) (fun h => ?_) (fun h => ?_)
      · replace hw := hw.1 h
        refine r_aload hC dX7_changeValue_38 rfl ?_
        refine r_aload_n hC dX7_changeValue_40 rfl ?_
        refine r_iconst hC dX7_changeValue_41 ?_
        refine cl_X7_388 hC h101 (c_X5_grantsAll (kL K) hw) (by rw [hR]; decide) (Nat.le_of_ble_eq_true rfl) dX7_changeValue_42 (fun r103 s104 hq => ?_)
        clear hw
        have hw := hq
        clear hq
        refine r_if_ne (tgt := 51) hC dX7_changeValue_45 (by decide) (fun h => ?_) (fun h => ?_)
        · replace hw := hw.1 h
          refine r_aload hC dX7_changeValue_51 rfl ?_
          refine r_iload_n hC dX7_changeValue_53 rfl ?_
          refine r_iload hC dX7_changeValue_54 rfl ?_
          refine r_aload_n hC dX7_changeValue_56 rfl ?_
          obtain ⟨a102, rfl, hw⟩ := hw
          refine gf_X7_60 hC dX7_changeValue_57 ?_
          refine cl_X7_399 hC h101 (c_X0_put (kL K) hw) (by rw [hR]; decide) (Nat.le_of_ble_eq_true rfl) dX7_changeValue_60 (fun r104 s105 hq => ?_)
          clear hw
          have hw := hq
          clear hq
          refine r_if_eq (tgt := 72) hC dX7_changeValue_63 (by decide) (fun h => ?_) (fun h => ?_)
          · replace hw := hw.1 h
            refine r_iconst hC dX7_changeValue_72 ?_
            exact r_ireturn hC hM ⟨_, rfl, hw⟩ (by rw [hR]; decide) (by rw [hR]; decide) dX7_changeValue_73
          · replace hw := hw.2 h
            refine r_aload_n hC dX7_changeValue_66 rfl ?_
            refine r_aload hC dX7_changeValue_67 rfl ?_
            refine cl_X7_69 hC (c_X7_serveAll (kL K) hw) (by rw [hR]; decide) (Nat.le_of_ble_eq_true rfl) dX7_changeValue_69 (fun s106 hq => ?_)
            clear hw
            have hw := hq
            clear hq
            refine r_iconst hC dX7_changeValue_72 ?_
            exact r_ireturn hC hM ⟨_, rfl, hw⟩ (by rw [hR]; decide) (by rw [hR]; decide) dX7_changeValue_73
        · replace hw := hw.2 h
          refine r_bipush hC dX7_changeValue_48 (by decide) ?_
          exact r_ireturn hC hM ⟨_, rfl, hw⟩ (by rw [hR]; decide) (by rw [hR]; decide) dX7_changeValue_50
      · replace hw := hw.2 h
        refine r_bipush hC dX7_changeValue_35 (by decide) ?_
        exact r_ireturn hC hM ⟨_, rfl, hw⟩ (by rw [hR]; decide) (by rw [hR]; decide) dX7_changeValue_37
  · replace hw := hw.2 h
    refine r_bipush hC dX7_changeValue_11 (by decide) ?_
    exact r_ireturn hC hM ⟨_, rfl, hw⟩ (by rw [hR]; decide) (by rw [hR]; decide) dX7_changeValue_13
def wp_X7_value (x1 : Int) (x2 : Int) (x3 : Int) (x4 : Int) (σ : St) (po : Int → St → Prop) : Prop := wp_X7_processAt x1 σ (fun o101 s101 => (o101 = none → po (-2) s101) ∧
 (∀ a101, o101 = some a101 → wp_X2_isFree a101 s101 (fun r101 s102 => (nm r101 = 0 → po (-3) s102) ∧
 (nm r101 ≠ 0 → wp_X7_changeValue (some a101) x2 x3 x4 s102 (fun r102 s103 => wp_X2_told a101 r102 s103 (fun r103 s104 => po r103 s104))))))
set_option maxRecDepth 100000 in
set_option maxHeartbeats 4000000 in
theorem c_X7_value (l : Launch) {x1 : Int} {x2 : Int} {x3 : Int} {x4 : Int} {σ : St} {po : Int → St → Prop} (hw : wp_X7_value x1 x2 x3 x4 σ po) : MT l yX7_value cX7_value 6 (some .int) ({ frames := 6, cells := 0, slots := 0, locals := 144 } : Room) [wr 0 (some 0), wi x1, wi x2, wi x3, wi x4] σ (PI po) := by
  refine MT_of (by decide) (Nat.le_of_ble_eq_true rfl) (fun K hL hR hC hM => ?_)
  subst hL
  unfold wp_X7_value at hw
  show J K 0 [some (wr 0 (some 0)), some (wi x1), some (wi x2), some (wi x3), some (wi x4), none] [] σ 0 0
  refine r_aload_n hC dX7_value_0 rfl ?_
  refine r_iload_n hC dX7_value_1 rfl ?_
  refine cl_X7_41 hC (c_X7_processAt (kL K) hw) (by rw [hR]; decide) (Nat.le_of_ble_eq_true rfl) dX7_value_2 (fun o101 s101 hq => ?_)
  clear hw
  have hw := hq
  clear hq
  refine r_astore (l' := [_, _, _, _, _, _]) hC dX7_value_5 rfl (by decide) rfl ?_
  refine r_aload hC dX7_value_7 rfl ?_
  refine r_ifnonnull (tgt := 15) hC dX7_value_9 (by decide) (fun a101 h => ?_) (fun h => ?_)
  · replace hw := hw.2 a101 h
    subst h
    refine r_aload hC dX7_value_15 rfl ?_
    refine cl_X7_86 hC (c_X2_isFree (kL K) hw) (by rw [hR]; decide) (Nat.le_of_ble_eq_true rfl) dX7_value_17 (fun r101 s102 hq => ?_)
    clear hw
    have hw := hq
    clear hq
    refine r_if_eq (tgt := 41) hC dX7_value_20 (by decide) (fun h => ?_) (fun h => ?_)
    · replace hw := hw.1 h
      refine r_bipush hC dX7_value_41 (by decide) ?_
      exact r_ireturn hC hM ⟨_, rfl, hw⟩ (by rw [hR]; decide) (by rw [hR]; decide) dX7_value_43
    · replace hw := hw.2 h
      refine r_aload hC dX7_value_23 rfl ?_
      refine r_aload_n hC dX7_value_25 rfl ?_
      refine r_aload hC dX7_value_26 rfl ?_
      refine r_iload_n hC dX7_value_28 rfl ?_
      refine r_iload_n hC dX7_value_29 rfl ?_
      refine r_iload hC dX7_value_30 rfl ?_
      refine cl_X7_134 hC (c_X7_changeValue (kL K) hw) (by rw [hR]; decide) (Nat.le_of_ble_eq_true rfl) dX7_value_32 (fun r102 s103 hq => ?_)
      clear hw
      have hw := hq
      clear hq
      refine cl_X7_94 hC (c_X2_told (kL K) hw) (by rw [hR]; decide) (Nat.le_of_ble_eq_true rfl) dX7_value_35 (fun r103 s104 hq => ?_)
      clear hw
      have hw := hq
      clear hq
      refine r_goto (tgt := 43) hC dX7_value_38 (by decide) ?_
      exact r_ireturn hC hM ⟨_, rfl, hw⟩ (by rw [hR]; decide) (by rw [hR]; decide) dX7_value_43
  · replace hw := hw.1 h
    subst h
    refine r_bipush hC dX7_value_12 (by decide) ?_
    exact r_ireturn hC hM ⟨_, rfl, hw⟩ (by rw [hR]; decide) (by rw [hR]; decide) dX7_value_14
def wp_X7_queueIn (x1 : Int) (σ : St) (po : Option Nat → St → Prop) : Prop := wp_X7_thingIn 2 (some 0) x1 σ (fun o101 s101 => (o101 = none → po none s101) ∧
 (∀ a101, o101 = some a101 → a101 < 12 ∧ po (some a101) s101))
set_option maxRecDepth 100000 in
set_option maxHeartbeats 4000000 in
theorem c_X7_queueIn (l : Launch) {x1 : Int} {σ : St} {po : Option Nat → St → Prop} (hw : wp_X7_queueIn x1 σ po) : MT l yX7_queueIn cX7_queueIn 4 (some (.object "QueuesAndGates$Queue")) ({ frames := 1, cells := 0, slots := 0, locals := 22 } : Room) [wr 0 (some 0), wi x1] σ (PR 20 po) := by
  refine MT_of (by decide) (Nat.le_of_ble_eq_true rfl) (fun K hL hR hC hM => ?_)
  subst hL
  unfold wp_X7_queueIn at hw
  show J K 0 [some (wr 0 (some 0)), some (wi x1), none, none] [] σ 0 0
  refine r_aload_n hC dX7_queueIn_0 rfl ?_
  refine gf_X7_21 hC dX7_queueIn_1 ?_
  refine r_iload_n hC dX7_queueIn_4 rfl ?_
  refine cl_X7_212 hC (c_X7_thingIn (kL K) hw) (by rw [hR]; decide) (Nat.le_of_ble_eq_true rfl) dX7_queueIn_5 (fun o101 s101 hq => ?_)
  clear hw
  have hw := hq
  clear hq
  refine r_astore_n (l' := [_, _, _, _]) hC dX7_queueIn_8 rfl (by decide) rfl ?_
  refine r_aload_n hC dX7_queueIn_9 rfl ?_
  refine r_inst hC (ci := 3) rfl rfl (wg 363 (by decide +kernel) (by decide +kernel)) dX7_queueIn_10 (fun h => ?_) (fun a101 h => ?_)
  · replace hw := hw.1 h
    subst h
    refine r_if_eq (tgt := 25) hC dX7_queueIn_13 (by decide) (fun _ => ?_) (fun h => absurd h (by decide))
    refine r_null hC 20 dX7_queueIn_25 ?_
    exact r_areturn hC hM ⟨_, rfl, hw⟩ (by rw [hR]; decide) (by rw [hR]; decide) dX7_queueIn_26
  · replace hw := hw.2 a101 h
    subst h
    have h101 := hw.1
    replace hw := hw.2
    refine ⟨oCi_lt h101, ?_⟩
    refine r_if_eq (tgt := 25) hC dX7_queueIn_13 (by decide) (fun h => absurd h (by decide)) (fun _ => ?_)
    refine r_aload_n hC dX7_queueIn_16 rfl ?_
    refine r_cast hC (ci := 3) rfl rfl (wg 363 (by decide +kernel) (by decide +kernel)) dX7_queueIn_17 ⟨(fun a9 h9 => by cases h9; exact oCi_lt h101), ?_⟩
    refine r_astore_n (l' := [_, _, _, _]) hC dX7_queueIn_20 rfl (by decide) rfl ?_
    refine r_aload_n hC dX7_queueIn_21 rfl ?_
    refine r_goto (tgt := 26) hC dX7_queueIn_22 (by decide) ?_
    exact r_areturn hC hM ⟨_, rfl, hw⟩ (by rw [hR]; decide) (by rw [hR]; decide) dX7_queueIn_26
def wp_X7_waitersOn_5 (po : Int → St → Prop) : Nat → Option Nat → Int → Int → Int → St → Prop
  | 0, _, _, _, _, _ => False
  | n + 1, o1, x2, x3, x4, σ => (nm (gI σ 2 0 0) ≤ nm x4 → po x3 σ) ∧
 (nm x4 < nm (gI σ 2 0 0) → wp_X7_inLine x4 σ (fun o101 s101 => (o101 = none → wp_X7_waitersOn_5 po n o1 x2 x3 (x4 + 1) s101) ∧
 (∀ a101, o101 = some a101 → wp_X2_waitsTo a101 x2 o1 s101 (fun r101 s102 => (nm r101 = 0 → wp_X7_waitersOn_5 po n o1 x2 x3 (x4 + 1) s102) ∧
 (nm r101 ≠ 0 → wp_X7_waitersOn_5 po n o1 x2 (x3 + 1) (x4 + 1) s102)))))
set_option maxRecDepth 100000 in
set_option maxHeartbeats 4000000 in
theorem j_X7_waitersOn_5 {K : JK} (hR : kRm K = ({ frames := 1, cells := 0, slots := 0, locals := 22 } : Room)) (hC : Cx K cX7_waitersOn 6 RX7) {po : Int → St → Prop} (hM : Mx K (some .int) (PI po)) : ∀ (n : Nat) (o1 : Option Nat) (x2 : Int) (x3 : Int) (x4 : Int) (σ : St), wp_X7_waitersOn_5 po n o1 x2 x3 x4 σ → J K 5 [some (wr 0 (some 0)), some (wr 20 o1), some (wi x2), some (wi x3), some (wi x4), none] [] σ 0 0 := by
  intro n
  induction n with
  | zero =>
    intro o1 x2 x3 x4 σ hw
    exact False.elim hw
  | succ n ih =>
    intro o1 x2 x3 x4 σ hw
    unfold wp_X7_waitersOn_5 at hw
    refine r_iload hC dX7_waitersOn_5 rfl ?_
    refine r_aload_n hC dX7_waitersOn_7 rfl ?_
    refine gf_X7_31 hC dX7_waitersOn_8 ?_
    refine r_icmp_ge (tgt := 46) hC dX7_waitersOn_11 (by decide) (fun h => ?_) (fun h => ?_)
    · replace hw := hw.1 h
      refine r_iload_n hC dX7_waitersOn_46 rfl ?_
      exact r_ireturn hC hM ⟨_, rfl, hw⟩ (by rw [hR]; decide) (by rw [hR]; decide) dX7_waitersOn_47
    · replace hw := hw.2 h
      refine r_aload_n hC dX7_waitersOn_14 rfl ?_
      refine r_iload hC dX7_waitersOn_15 rfl ?_
      refine cl_X7_230 hC (c_X7_inLine (kL K) hw) (by rw [hR]; decide) (Nat.le_of_ble_eq_true rfl) dX7_waitersOn_17 (fun o101 s101 hq => ?_)
      clear hw
      have hw := hq
      clear hq
      refine r_astore (l' := [_, _, _, _, _, _]) hC dX7_waitersOn_20 rfl (by decide) rfl ?_
      refine r_aload hC dX7_waitersOn_22 rfl ?_
      refine r_ifnull (tgt := 40) hC dX7_waitersOn_24 (by decide) (fun h => ?_) (fun a101 h => ?_)
      · replace hw := hw.1 h
        subst h
        refine r_iinc (l' := [_, _, _, _, _, _]) hC dX7_waitersOn_40 rfl rfl (by decide) rfl ?_
        refine r_goto (tgt := 5) hC dX7_waitersOn_43 (by decide) ?_
        exact J.drop2 (ih o1 x2 x3 (x4 + 1) s101 hw) ⟨rfl, rfl, rfl, rfl, rfl, trivial⟩
      · replace hw := hw.2 a101 h
        subst h
        refine r_aload hC dX7_waitersOn_27 rfl ?_
        refine r_iload_n hC dX7_waitersOn_29 rfl ?_
        refine r_aload_n hC dX7_waitersOn_30 rfl ?_
        refine cl_X7_233 hC (c_X2_waitsTo (kL K) hw) (by rw [hR]; decide) (Nat.le_of_ble_eq_true rfl) dX7_waitersOn_31 (fun r101 s102 hq => ?_)
        clear hw
        have hw := hq
        clear hq
        refine r_if_eq (tgt := 40) hC dX7_waitersOn_34 (by decide) (fun h => ?_) (fun h => ?_)
        · replace hw := hw.1 h
          refine r_iinc (l' := [_, _, _, _, _, _]) hC dX7_waitersOn_40 rfl rfl (by decide) rfl ?_
          refine r_goto (tgt := 5) hC dX7_waitersOn_43 (by decide) ?_
          exact J.drop2 (ih o1 x2 x3 (x4 + 1) s102 hw) ⟨rfl, rfl, rfl, rfl, rfl, trivial⟩
        · replace hw := hw.2 h
          refine r_iinc (l' := [_, _, _, _, _, _]) hC dX7_waitersOn_37 rfl rfl (by decide) rfl ?_
          refine r_iinc (l' := [_, _, _, _, _, _]) hC dX7_waitersOn_40 rfl rfl (by decide) rfl ?_
          refine r_goto (tgt := 5) hC dX7_waitersOn_43 (by decide) ?_
          exact J.drop2 (ih o1 x2 (x3 + 1) (x4 + 1) s102 hw) ⟨rfl, rfl, rfl, rfl, rfl, trivial⟩
def wp_X7_waitersOn (o1 : Option Nat) (x2 : Int) (σ : St) (po : Int → St → Prop) : Prop := ∃ n9, wp_X7_waitersOn_5 po n9 o1 x2 0 0 σ
set_option maxRecDepth 100000 in
set_option maxHeartbeats 4000000 in
theorem c_X7_waitersOn (l : Launch) {o1 : Option Nat} {x2 : Int} {σ : St} {po : Int → St → Prop} (hw : wp_X7_waitersOn o1 x2 σ po) : MT l yX7_waitersOn cX7_waitersOn 6 (some .int) ({ frames := 1, cells := 0, slots := 0, locals := 22 } : Room) [wr 0 (some 0), wr 20 o1, wi x2] σ (PI po) := by
  refine MT_of (by decide) (Nat.le_of_ble_eq_true rfl) (fun K hL hR hC hM => ?_)
  subst hL
  unfold wp_X7_waitersOn at hw
  show J K 0 [some (wr 0 (some 0)), some (wr 20 o1), some (wi x2), none, none, none] [] σ 0 0
  refine r_iconst hC dX7_waitersOn_0 ?_
  refine r_istore_n (l' := [_, _, _, _, _, _]) hC dX7_waitersOn_1 rfl (by decide) rfl ?_
  refine r_iconst hC dX7_waitersOn_2 ?_
  refine r_istore (l' := [_, _, _, _, _, _]) hC dX7_waitersOn_3 rfl (by decide) rfl ?_
  obtain ⟨n9, hw⟩ := hw
  exact J.drop2 (j_X7_waitersOn_5 hR hC hM n9 o1 x2 0 0 σ hw) ⟨rfl, rfl, rfl, rfl, rfl, trivial⟩
def wp_X5_fact (a0 : Nat) (x1 : Int) (σ : St) (po : Int → St → Prop) : Prop := (nm x1 = 0 → po (gI σ 33 a0 0) σ) ∧
 (nm x1 = 1 → po (gI σ 34 a0 0) σ) ∧
 (nm x1 = 2 → po (gI σ 35 a0 0) σ) ∧
 (nm x1 = 3 → po (gI σ 36 a0 0) σ) ∧
 (nm x1 = 4 → po (gI σ 37 a0 0) σ) ∧
 (nm x1 = 5 → po (gI σ 38 a0 0) σ) ∧
 (nm x1 = 6 → po (gI σ 39 a0 0) σ) ∧
 ((nm x1 < 0 ∨ 6 < nm x1) → po (-4) σ)
set_option maxRecDepth 100000 in
set_option maxHeartbeats 4000000 in
theorem c_X5_fact (l : Launch) {a0 : Nat} {x1 : Int} {σ : St} {po : Int → St → Prop} (hw : wp_X5_fact a0 x1 σ po) : MT l yX5_fact cX5_fact 2 (some .int) ({ frames := 0, cells := 0, slots := 0, locals := 0 } : Room) [wr 20 (some a0), wi x1] σ (PI po) := by
  refine MT_of (by decide) (Nat.le_of_ble_eq_true rfl) (fun K hL hR hC hM => ?_)
  subst hL
  unfold wp_X5_fact at hw
  show J K 0 [some (wr 20 (some a0)), some (wi x1)] [] σ 0 0
  refine r_iload_n hC dX5_fact_0 rfl ?_
  have hsw : nm x1 = 0 ∨ nm x1 = 1 ∨ nm x1 = 2 ∨ nm x1 = 3 ∨ nm x1 = 4 ∨ nm x1 = 5 ∨ nm x1 = 6 ∨ (nm x1 < 0 ∨ 6 < nm x1) := by omega
  rcases hsw with h | h | h | h | h | h | h | h
  · replace hw := hw.1 h
    refine r_tabIn (tgt := 44) hC 0 h dX5_fact_1 (by decide) (by decide) rfl (by decide) ?_
    refine r_aload_n hC dX5_fact_44 rfl ?_
    refine gf_X5_19 hC dX5_fact_45 ?_
    exact r_ireturn hC hM ⟨_, rfl, hw⟩ (by rw [hR]; decide) (by rw [hR]; decide) dX5_fact_48
  · replace hw := hw.2.1 h
    refine r_tabIn (tgt := 49) hC 1 h dX5_fact_1 (by decide) (by decide) rfl (by decide) ?_
    refine r_aload_n hC dX5_fact_49 rfl ?_
    refine gf_X5_22 hC dX5_fact_50 ?_
    exact r_ireturn hC hM ⟨_, rfl, hw⟩ (by rw [hR]; decide) (by rw [hR]; decide) dX5_fact_53
  · replace hw := hw.2.2.1 h
    refine r_tabIn (tgt := 54) hC 2 h dX5_fact_1 (by decide) (by decide) rfl (by decide) ?_
    refine r_aload_n hC dX5_fact_54 rfl ?_
    refine gf_X5_25 hC dX5_fact_55 ?_
    exact r_ireturn hC hM ⟨_, rfl, hw⟩ (by rw [hR]; decide) (by rw [hR]; decide) dX5_fact_58
  · replace hw := hw.2.2.2.1 h
    refine r_tabIn (tgt := 59) hC 3 h dX5_fact_1 (by decide) (by decide) rfl (by decide) ?_
    refine r_aload_n hC dX5_fact_59 rfl ?_
    refine gf_X5_28 hC dX5_fact_60 ?_
    exact r_ireturn hC hM ⟨_, rfl, hw⟩ (by rw [hR]; decide) (by rw [hR]; decide) dX5_fact_63
  · replace hw := hw.2.2.2.2.1 h
    refine r_tabIn (tgt := 64) hC 4 h dX5_fact_1 (by decide) (by decide) rfl (by decide) ?_
    refine r_aload_n hC dX5_fact_64 rfl ?_
    refine gf_X5_31 hC dX5_fact_65 ?_
    exact r_ireturn hC hM ⟨_, rfl, hw⟩ (by rw [hR]; decide) (by rw [hR]; decide) dX5_fact_68
  · replace hw := hw.2.2.2.2.2.1 h
    refine r_tabIn (tgt := 69) hC 5 h dX5_fact_1 (by decide) (by decide) rfl (by decide) ?_
    refine r_aload_n hC dX5_fact_69 rfl ?_
    refine gf_X5_34 hC dX5_fact_70 ?_
    exact r_ireturn hC hM ⟨_, rfl, hw⟩ (by rw [hR]; decide) (by rw [hR]; decide) dX5_fact_73
  · replace hw := hw.2.2.2.2.2.2.1 h
    refine r_tabIn (tgt := 74) hC 6 h dX5_fact_1 (by decide) (by decide) rfl (by decide) ?_
    refine r_aload_n hC dX5_fact_74 rfl ?_
    refine gf_X5_37 hC dX5_fact_75 ?_
    exact r_ireturn hC hM ⟨_, rfl, hw⟩ (by rw [hR]; decide) (by rw [hR]; decide) dX5_fact_78
  · replace hw := hw.2.2.2.2.2.2.2 h
    refine r_tabOut (tgt := 79) hC h dX5_fact_1 (by decide) ?_
    refine r_bipush hC dX5_fact_79 (by decide) ?_
    exact r_ireturn hC hM ⟨_, rfl, hw⟩ (by rw [hR]; decide) (by rw [hR]; decide) dX5_fact_81
def wp_X7_queueOf (x1 : Int) (x2 : Int) (σ : St) (po : Int → St → Prop) : Prop := wp_X7_isWithin x2 11 σ (fun r101 s101 => (nm r101 ≠ 0 → wp_X7_queueIn x1 s101 (fun o101 s102 => (o101 = none → po (-1) s102) ∧
 (∀ a101, o101 = some a101 → (nm x2 = 7 → a101 < 12 ∧ po (gI s102 41 a101 0) s102) ∧
 (nm x2 = 8 → a101 < 12 ∧ po (gI s102 42 a101 0) s102) ∧
 (nm x2 = 9 → a101 < 12 ∧ po (gI s102 40 a101 0) s102) ∧
 (nm x2 = 10 → wp_X7_waitersOn (some a101) 1 s102 (fun r102 s103 => po r102 s103)) ∧
 (nm x2 = 11 → wp_X7_waitersOn (some a101) 2 s102 (fun r103 s104 => po r103 s104)) ∧
 ((nm x2 < 7 ∨ 11 < nm x2) → a101 < 12 ∧ wp_X5_fact a101 x2 s102 (fun r104 s105 => po r104 s105))))) ∧
 (nm r101 = 0 → po (-4) s101))
set_option maxRecDepth 100000 in
set_option maxHeartbeats 4000000 in
theorem c_X7_queueOf (l : Launch) {x1 : Int} {x2 : Int} {σ : St} {po : Int → St → Prop} (hw : wp_X7_queueOf x1 x2 σ po) : MT l yX7_queueOf cX7_queueOf 4 (some .int) ({ frames := 2, cells := 0, slots := 0, locals := 47 } : Room) [wr 0 (some 0), wi x1, wi x2] σ (PI po) := by
  refine MT_of (by decide) (Nat.le_of_ble_eq_true rfl) (fun K hL hR hC hM => ?_)
  subst hL
  unfold wp_X7_queueOf at hw
  show J K 0 [some (wr 0 (some 0)), some (wi x1), some (wi x2), none] [] σ 0 0
  refine r_iload_n hC dX7_queueOf_0 rfl ?_
  refine r_bipush hC dX7_queueOf_1 (by decide) ?_
  refine cl_X7_34 hC (c_X7_isWithin (kL K) hw) (by rw [hR]; decide) (Nat.le_of_ble_eq_true rfl) dX7_queueOf_3 (fun r101 s101 hq => ?_)
  clear hw
  have hw := hq
  clear hq
  refine r_if_ne (tgt := 12) hC dX7_queueOf_6 (by decide) (fun h => ?_) (fun h => ?_)
  · replace hw := hw.1 h
    refine r_aload_n hC dX7_queueOf_12 rfl ?_
    refine r_iload_n hC dX7_queueOf_13 rfl ?_
    refine cl_X7_137 hC (c_X7_queueIn (kL K) hw) (by rw [hR]; decide) (Nat.le_of_ble_eq_true rfl) dX7_queueOf_14 (fun o101 s102 hq => ?_)
    clear hw
    have hw := hq
    clear hq
    refine r_astore_n (l' := [_, _, _, _]) hC dX7_queueOf_17 rfl (by decide) rfl ?_
    refine r_aload_n hC dX7_queueOf_18 rfl ?_
    refine r_ifnonnull (tgt := 24) hC dX7_queueOf_19 (by decide) (fun a101 h => ?_) (fun h => ?_)
    · replace hw := hw.2 a101 h
      subst h
      refine r_iload_n hC dX7_queueOf_24 rfl ?_
      have hsw : nm x2 = 7 ∨ nm x2 = 8 ∨ nm x2 = 9 ∨ nm x2 = 10 ∨ nm x2 = 11 ∨ (nm x2 < 7 ∨ 11 < nm x2) := by omega
      rcases hsw with h | h | h | h | h | h
      · replace hw := hw.1 h
        refine r_tabIn (tgt := 60) hC 7 h dX7_queueOf_25 (by decide) (by decide) rfl (by decide) ?_
        refine r_aload_n hC dX7_queueOf_60 rfl ?_
        have h101 := hw.1
        replace hw := hw.2
        refine gf_X7_141 hC h101 dX7_queueOf_61 ?_
        exact r_ireturn hC hM ⟨_, rfl, hw⟩ (by rw [hR]; decide) (by rw [hR]; decide) dX7_queueOf_64
      · replace hw := hw.2.1 h
        refine r_tabIn (tgt := 65) hC 8 h dX7_queueOf_25 (by decide) (by decide) rfl (by decide) ?_
        refine r_aload_n hC dX7_queueOf_65 rfl ?_
        have h102 := hw.1
        replace hw := hw.2
        refine gf_X7_146 hC h102 dX7_queueOf_66 ?_
        exact r_ireturn hC hM ⟨_, rfl, hw⟩ (by rw [hR]; decide) (by rw [hR]; decide) dX7_queueOf_69
      · replace hw := hw.2.2.1 h
        refine r_tabIn (tgt := 70) hC 9 h dX7_queueOf_25 (by decide) (by decide) rfl (by decide) ?_
        refine r_aload_n hC dX7_queueOf_70 rfl ?_
        have h103 := hw.1
        replace hw := hw.2
        refine gf_X7_149 hC h103 dX7_queueOf_71 ?_
        exact r_ireturn hC hM ⟨_, rfl, hw⟩ (by rw [hR]; decide) (by rw [hR]; decide) dX7_queueOf_74
      · replace hw := hw.2.2.2.1 h
        refine r_tabIn (tgt := 75) hC 10 h dX7_queueOf_25 (by decide) (by decide) rfl (by decide) ?_
        refine r_aload_n hC dX7_queueOf_75 rfl ?_
        refine r_aload_n hC dX7_queueOf_76 rfl ?_
        refine r_iconst hC dX7_queueOf_77 ?_
        refine cl_X7_152 hC (c_X7_waitersOn (kL K) hw) (by rw [hR]; decide) (Nat.le_of_ble_eq_true rfl) dX7_queueOf_78 (fun r102 s103 hq => ?_)
        clear hw
        have hw := hq
        clear hq
        exact r_ireturn hC hM ⟨_, rfl, hw⟩ (by rw [hR]; decide) (by rw [hR]; decide) dX7_queueOf_81
      · replace hw := hw.2.2.2.2.1 h
        refine r_tabIn (tgt := 82) hC 11 h dX7_queueOf_25 (by decide) (by decide) rfl (by decide) ?_
        refine r_aload_n hC dX7_queueOf_82 rfl ?_
        refine r_aload_n hC dX7_queueOf_83 rfl ?_
        refine r_iconst hC dX7_queueOf_84 ?_
        refine cl_X7_152 hC (c_X7_waitersOn (kL K) hw) (by rw [hR]; decide) (Nat.le_of_ble_eq_true rfl) dX7_queueOf_85 (fun r103 s104 hq => ?_)
        clear hw
        have hw := hq
        clear hq
        exact r_ireturn hC hM ⟨_, rfl, hw⟩ (by rw [hR]; decide) (by rw [hR]; decide) dX7_queueOf_88
      · replace hw := hw.2.2.2.2.2 h
        refine r_tabOut (tgt := 89) hC h dX7_queueOf_25 (by decide) ?_
        refine r_aload_n hC dX7_queueOf_89 rfl ?_
        refine r_iload_n hC dX7_queueOf_90 rfl ?_
        have h104 := hw.1
        replace hw := hw.2
        refine cl_X7_156 hC h104 (c_X5_fact (kL K) hw) (by rw [hR]; decide) (Nat.le_of_ble_eq_true rfl) dX7_queueOf_91 (fun r104 s105 hq => ?_)
        clear hw
        have hw := hq
        clear hq
        exact r_ireturn hC hM ⟨_, rfl, hw⟩ (by rw [hR]; decide) (by rw [hR]; decide) dX7_queueOf_94
    · replace hw := hw.1 h
      subst h
      refine r_iconst hC dX7_queueOf_22 ?_
      exact r_ireturn hC hM ⟨_, rfl, hw⟩ (by rw [hR]; decide) (by rw [hR]; decide) dX7_queueOf_23
  · replace hw := hw.2 h
    refine r_bipush hC dX7_queueOf_9 (by decide) ?_
    exact r_ireturn hC hM ⟨_, rfl, hw⟩ (by rw [hR]; decide) (by rw [hR]; decide) dX7_queueOf_11
def wp_X1_byteAt (a0 : Nat) (x1 : Int) (σ : St) (po : Int → St → Prop) : Prop := (nm x1 < 0 → po (-1) σ) ∧
 (0 ≤ nm x1 → (nm (gI σ 17 a0 0) ≤ nm x1 → po (-1) σ) ∧
 (nm x1 < nm (gI σ 17 a0 0) → (nm 64 ≤ nm x1 → po (-1) σ) ∧
 (nm x1 < nm 64 → (0 ≤ nm x1 ∧ nm x1 < 64) ∧ po (gI σ 18 a0 (nm x1).toNat) σ)))
set_option maxRecDepth 100000 in
set_option maxHeartbeats 4000000 in
theorem c_X1_byteAt (l : Launch) {a0 : Nat} {x1 : Int} {σ : St} {po : Int → St → Prop} (hw : wp_X1_byteAt a0 x1 σ po) : MT l yX1_byteAt cX1_byteAt 2 (some .int) ({ frames := 0, cells := 0, slots := 0, locals := 0 } : Room) [wr 12 (some a0), wi x1] σ (PI po) := by
  refine MT_of (by decide) (Nat.le_of_ble_eq_true rfl) (fun K hL hR hC hM => ?_)
  subst hL
  unfold wp_X1_byteAt at hw
  show J K 0 [some (wr 12 (some a0)), some (wi x1)] [] σ 0 0
  refine r_iload_n hC dX1_byteAt_0 rfl ?_
  refine r_if_lt (tgt := 27) hC dX1_byteAt_1 (by decide) (fun h => ?_) (fun h => ?_)
  · replace hw := hw.1 h
    refine r_iconst hC dX1_byteAt_27 ?_
    exact r_ireturn hC hM ⟨_, rfl, hw⟩ (by rw [hR]; decide) (by rw [hR]; decide) dX1_byteAt_28
  · replace hw := hw.2 h
    refine r_iload_n hC dX1_byteAt_4 rfl ?_
    refine r_aload_n hC dX1_byteAt_5 rfl ?_
    refine gf_X1_15 hC dX1_byteAt_6 ?_
    refine r_icmp_ge (tgt := 27) hC dX1_byteAt_9 (by decide) (fun h => ?_) (fun h => ?_)
    · replace hw := hw.1 h
      refine r_iconst hC dX1_byteAt_27 ?_
      exact r_ireturn hC hM ⟨_, rfl, hw⟩ (by rw [hR]; decide) (by rw [hR]; decide) dX1_byteAt_28
    · replace hw := hw.2 h
      refine r_iload_n hC dX1_byteAt_12 rfl ?_
      refine r_bipush hC dX1_byteAt_13 (by decide) ?_
      refine r_icmp_ge (tgt := 27) hC dX1_byteAt_15 (by decide) (fun h => ?_) (fun h => ?_)
      · replace hw := hw.1 h
        refine r_iconst hC dX1_byteAt_27 ?_
        exact r_ireturn hC hM ⟨_, rfl, hw⟩ (by rw [hR]; decide) (by rw [hR]; decide) dX1_byteAt_28
      · replace hw := hw.2 h
        refine r_aload_n hC dX1_byteAt_18 rfl ?_
        refine gf_X1_19 hC dX1_byteAt_19 ?_
        refine r_iload_n hC dX1_byteAt_22 rfl ?_
        refine r_iaload hC rfl (by decide) hw.1 dX1_byteAt_23 ?_
        replace hw := hw.2
        refine r_goto (tgt := 28) hC dX1_byteAt_24 (by decide) ?_
        exact r_ireturn hC hM ⟨_, rfl, hw⟩ (by rw [hR]; decide) (by rw [hR]; decide) dX1_byteAt_28
def wp_X7_message_22 (po : Int → St → Prop) (x3 : Int) (p0 : Option Nat) (σ : St) : Prop := (p0 = none → po (-1) σ) ∧
 (∀ a101, p0 = some a101 → (0 ≤ nm x3 → (nm x3 ≠ 0 → (nm x3 ≠ nm 1 → wp_X1_byteAt a101 (x3 - 2) σ (fun r101 s102 => po (nm r101) s102)) ∧
 (nm x3 = nm 1 → po (nm (gI σ 17 a101 0)) σ)) ∧
 (nm x3 = 0 → po (gL σ 11 a101 0) σ)) ∧
 (nm x3 < 0 → po (-1) σ))
set_option maxRecDepth 100000 in
set_option maxHeartbeats 4000000 in
theorem j_X7_message_22 {K : JK} (hR : kRm K = ({ frames := 2, cells := 0, slots := 0, locals := 45 } : Room)) (hC : Cx K cX7_message 6 RX7) {po : Int → St → Prop} (hM : Mx K (some .long) (PL po)) : ∀ (x3 : Int) (p0 : Option Nat) (σ : St), wp_X7_message_22 po x3 p0 σ → J K 22 [none, none, none, some (wi x3), none, none] [wr 12 p0] σ 0 0 := by
  intro x3 p0 σ hw
  unfold wp_X7_message_22 at hw
  refine r_astore (l' := [_, _, _, _, _, _]) hC dX7_message_22 rfl (by decide) rfl ?_
  refine r_aload hC dX7_message_24 rfl ?_
  refine r_ifnull (tgt := 33) hC dX7_message_26 (by decide) (fun h => ?_) (fun a101 h => ?_)
  · replace hw := hw.1 h
    subst h
    refine r_ldc2 hC (-1) (wg 737 (by decide +kernel) (by decide +kernel)) rfl dX7_message_33 ?_
    exact r_lreturn hC hM ⟨_, rfl, hw⟩ (by rw [hR]; decide) (by rw [hR]; decide) dX7_message_36
  · replace hw := hw.2 a101 h
    subst h
    refine r_iload_n hC dX7_message_29 rfl ?_
    refine r_if_ge (tgt := 37) hC dX7_message_30 (by decide) (fun h => ?_) (fun h => ?_)
    · replace hw := hw.1 h
      refine r_iload_n hC dX7_message_37 rfl ?_
      refine r_if_ne (tgt := 47) hC dX7_message_38 (by decide) (fun h => ?_) (fun h => ?_)
      · replace hw := hw.1 h
        refine r_iload_n hC dX7_message_47 rfl ?_
        refine r_iconst hC dX7_message_48 ?_
        refine r_icmp_ne (tgt := 61) hC dX7_message_49 (by decide) (fun h => ?_) (fun h => ?_)
        · replace hw := hw.1 h
          refine r_aload hC dX7_message_61 rfl ?_
          refine r_iload_n hC dX7_message_63 rfl ?_
          refine r_iconst hC dX7_message_64 ?_
          refine r_isub hC dX7_message_65 ?_
          refine cl_X7_173 hC (c_X1_byteAt (kL K) hw) (by rw [hR]; decide) (Nat.le_of_ble_eq_true rfl) dX7_message_66 (fun r101 s102 hq => ?_)
          clear hw
          have hw := hq
          clear hq
          refine r_i2l hC dX7_message_69 ?_
          exact r_lreturn hC hM ⟨_, rfl, hw⟩ (by rw [hR]; decide) (by rw [hR]; decide) dX7_message_70
        · replace hw := hw.2 h
          refine r_aload hC dX7_message_52 rfl ?_
          refine gf_X7_170 hC dX7_message_54 ?_
          refine r_i2l hC dX7_message_57 ?_
          refine r_goto (tgt := 70) hC dX7_message_58 (by decide) ?_
          exact r_lreturn hC hM ⟨_, rfl, hw⟩ (by rw [hR]; decide) (by rw [hR]; decide) dX7_message_70
      · replace hw := hw.2 h
        refine r_aload hC dX7_message_41 rfl ?_
        refine gf_X7_165 hC dX7_message_43 ?_
        exact r_lreturn hC hM ⟨_, rfl, hw⟩ (by rw [hR]; decide) (by rw [hR]; decide) dX7_message_46
    · replace hw := hw.2 h
      refine r_ldc2 hC (-1) (wg 737 (by decide +kernel) (by decide +kernel)) rfl dX7_message_33 ?_
      exact r_lreturn hC hM ⟨_, rfl, hw⟩ (by rw [hR]; decide) (by rw [hR]; decide) dX7_message_36
def wp_X7_message (x1 : Int) (x2 : Int) (x3 : Int) (σ : St) (po : Int → St → Prop) : Prop := wp_X7_queueIn x1 σ (fun o101 s101 => (o101 = none → wp_X7_message_22 po x3 none s101) ∧
 (∀ a102, o101 = some a102 → a102 < 12 ∧ wp_X3_messageAt a102 x2 s101 (fun o102 s103 => wp_X7_message_22 po x3 o102 s103)))
set_option maxRecDepth 100000 in
set_option maxHeartbeats 4000000 in
theorem c_X7_message (l : Launch) {x1 : Int} {x2 : Int} {x3 : Int} {σ : St} {po : Int → St → Prop} (hw : wp_X7_message x1 x2 x3 σ po) : MT l yX7_message cX7_message 6 (some .long) ({ frames := 2, cells := 0, slots := 0, locals := 45 } : Room) [wr 0 (some 0), wi x1, wi x2, wi x3] σ (PL po) := by
  refine MT_of (by decide) (Nat.le_of_ble_eq_true rfl) (fun K hL hR hC hM => ?_)
  subst hL
  unfold wp_X7_message at hw
  show J K 0 [some (wr 0 (some 0)), some (wi x1), some (wi x2), some (wi x3), none, none] [] σ 0 0
  refine r_aload_n hC dX7_message_0 rfl ?_
  refine r_iload_n hC dX7_message_1 rfl ?_
  refine cl_X7_137 hC (c_X7_queueIn (kL K) hw) (by rw [hR]; decide) (Nat.le_of_ble_eq_true rfl) dX7_message_2 (fun o101 s101 hq => ?_)
  clear hw
  have hw := hq
  clear hq
  refine r_astore (l' := [_, _, _, _, _, _]) hC dX7_message_5 rfl (by decide) rfl ?_
  refine r_aload hC dX7_message_7 rfl ?_
  refine r_ifnonnull (tgt := 16) hC dX7_message_9 (by decide) (fun a102 h => ?_) (fun h => ?_)
  · replace hw := hw.2 a102 h
    subst h
    refine r_aload hC dX7_message_16 rfl ?_
    refine r_iload_n hC dX7_message_18 rfl ?_
    have h101 := hw.1
    replace hw := hw.2
    refine cl_X7_159 hC h101 (c_X3_messageAt (kL K) hw) (by rw [hR]; decide) (Nat.le_of_ble_eq_true rfl) dX7_message_19 (fun o102 s103 hq => ?_)
    clear hw
    have hw := hq
    clear hq
    exact J.drop2 (j_X7_message_22 hR hC hM x3 o102 s103 hw) ⟨rfl, trivial⟩
  · replace hw := hw.1 h
    subst h
    refine r_null hC 12 dX7_message_12 ?_
    refine r_goto (tgt := 22) hC dX7_message_13 (by decide) ?_
    exact J.drop2 (j_X7_message_22 hR hC hM x3 none s101 hw) ⟨rfl, trivial⟩
def wp_X7_setOf (x1 : Int) (x2 : Int) (σ : St) (po : Int → St → Prop) : Prop := wp_X7_isWithin x2 8 σ (fun r101 s101 => (nm r101 ≠ 0 → wp_X7_setIn x1 s101 (fun o101 s102 => (o101 = none → po (-1) s102) ∧
 (∀ a101, o101 = some a101 → (nm x2 ≠ nm 7 → (nm x2 ≠ nm 8 → 12 ≤ a101 ∧ wp_X5_fact a101 x2 s102 (fun r102 s103 => po r102 s103)) ∧
 (nm x2 = nm 8 → wp_X7_waitersOn (some a101) 3 s102 (fun r103 s104 => po r103 s104))) ∧
 (nm x2 = nm 7 → 12 ≤ a101 ∧ po (gI s102 45 a101 0) s102)))) ∧
 (nm r101 = 0 → po (-4) s101))
set_option maxRecDepth 100000 in
set_option maxHeartbeats 4000000 in
theorem c_X7_setOf (l : Launch) {x1 : Int} {x2 : Int} {σ : St} {po : Int → St → Prop} (hw : wp_X7_setOf x1 x2 σ po) : MT l yX7_setOf cX7_setOf 4 (some .int) ({ frames := 2, cells := 0, slots := 0, locals := 47 } : Room) [wr 0 (some 0), wi x1, wi x2] σ (PI po) := by
  refine MT_of (by decide) (Nat.le_of_ble_eq_true rfl) (fun K hL hR hC hM => ?_)
  subst hL
  unfold wp_X7_setOf at hw
  show J K 0 [some (wr 0 (some 0)), some (wi x1), some (wi x2), none] [] σ 0 0
  refine r_iload_n hC dX7_setOf_0 rfl ?_
  refine r_bipush hC dX7_setOf_1 (by decide) ?_
  refine cl_X7_34 hC (c_X7_isWithin (kL K) hw) (by rw [hR]; decide) (Nat.le_of_ble_eq_true rfl) dX7_setOf_3 (fun r101 s101 hq => ?_)
  clear hw
  have hw := hq
  clear hq
  refine r_if_ne (tgt := 12) hC dX7_setOf_6 (by decide) (fun h => ?_) (fun h => ?_)
  · replace hw := hw.1 h
    refine r_aload_n hC dX7_setOf_12 rfl ?_
    refine r_iload_n hC dX7_setOf_13 rfl ?_
    refine cl_X7_56 hC (c_X7_setIn (kL K) hw) (by rw [hR]; decide) (Nat.le_of_ble_eq_true rfl) dX7_setOf_14 (fun o101 s102 hq => ?_)
    clear hw
    have hw := hq
    clear hq
    refine r_astore_n (l' := [_, _, _, _]) hC dX7_setOf_17 rfl (by decide) rfl ?_
    refine r_aload_n hC dX7_setOf_18 rfl ?_
    refine r_ifnonnull (tgt := 24) hC dX7_setOf_19 (by decide) (fun a101 h => ?_) (fun h => ?_)
    · replace hw := hw.2 a101 h
      subst h
      refine r_iload_n hC dX7_setOf_24 rfl ?_
      refine r_bipush hC dX7_setOf_25 (by decide) ?_
      refine r_icmp_ne (tgt := 35) hC dX7_setOf_27 (by decide) (fun h => ?_) (fun h => ?_)
      · replace hw := hw.1 h
        refine r_iload_n hC dX7_setOf_35 rfl ?_
        refine r_bipush hC dX7_setOf_36 (by decide) ?_
        refine r_icmp_ne (tgt := 50) hC dX7_setOf_38 (by decide) (fun h => ?_) (fun h => ?_)
        · replace hw := hw.1 h
          refine r_aload_n hC dX7_setOf_50 rfl ?_
          refine r_iload_n hC dX7_setOf_51 rfl ?_
          have h101 := hw.1
          replace hw := hw.2
          refine cl_X7_177 hC h101 (c_X5_fact (kL K) hw) (by rw [hR]; decide) (Nat.le_of_ble_eq_true rfl) dX7_setOf_52 (fun r102 s103 hq => ?_)
          clear hw
          have hw := hq
          clear hq
          exact r_ireturn hC hM ⟨_, rfl, hw⟩ (by rw [hR]; decide) (by rw [hR]; decide) dX7_setOf_55
        · replace hw := hw.2 h
          refine r_aload_n hC dX7_setOf_41 rfl ?_
          refine r_aload_n hC dX7_setOf_42 rfl ?_
          refine r_iconst hC dX7_setOf_43 ?_
          refine cl_X7_152 hC (c_X7_waitersOn (kL K) hw) (by rw [hR]; decide) (Nat.le_of_ble_eq_true rfl) dX7_setOf_44 (fun r103 s104 hq => ?_)
          clear hw
          have hw := hq
          clear hq
          refine r_goto (tgt := 55) hC dX7_setOf_47 (by decide) ?_
          exact r_ireturn hC hM ⟨_, rfl, hw⟩ (by rw [hR]; decide) (by rw [hR]; decide) dX7_setOf_55
      · replace hw := hw.2 h
        refine r_aload_n hC dX7_setOf_30 rfl ?_
        have h102 := hw.1
        replace hw := hw.2
        refine gf_X7_176 hC h102 dX7_setOf_31 ?_
        exact r_ireturn hC hM ⟨_, rfl, hw⟩ (by rw [hR]; decide) (by rw [hR]; decide) dX7_setOf_34
    · replace hw := hw.1 h
      subst h
      refine r_iconst hC dX7_setOf_22 ?_
      exact r_ireturn hC hM ⟨_, rfl, hw⟩ (by rw [hR]; decide) (by rw [hR]; decide) dX7_setOf_23
  · replace hw := hw.2 h
    refine r_bipush hC dX7_setOf_9 (by decide) ?_
    exact r_ireturn hC hM ⟨_, rfl, hw⟩ (by rw [hR]; decide) (by rw [hR]; decide) dX7_setOf_11
def wp_X4_isStoppedAt (a0 : Nat) (x1 : Int) (x2 : Int) (σ : St) (po : Int → St → Prop) : Prop := wp_X7_isWithin (gI σ 27 a0 0) 7 σ (fun r101 s101 => (nm r101 = 0 → po 0 s101) ∧
 (nm r101 ≠ 0 → (0 ≤ nm (gI s101 27 a0 0) ∧ nm (gI s101 27 a0 0) < 8) ∧ (nm (gI s101 22 a0 (nm (gI s101 27 a0 0)).toNat) ≠ nm x1 → po 0 s101) ∧
 (nm (gI s101 22 a0 (nm (gI s101 27 a0 0)).toNat) = nm x1 → (0 ≤ nm (gI s101 27 a0 0) ∧ nm (gI s101 27 a0 0) < 8) ∧ (nm (gI s101 23 a0 (nm (gI s101 27 a0 0)).toNat) ≠ 0 → (nm 0 ≠ nm x2 → po 0 s101) ∧
 (nm 0 = nm x2 → po 1 s101)) ∧
 (nm (gI s101 23 a0 (nm (gI s101 27 a0 0)).toNat) = 0 → (nm 1 ≠ nm x2 → po 0 s101) ∧
 (nm 1 = nm x2 → po 1 s101)))))
set_option maxRecDepth 100000 in
set_option maxHeartbeats 4000000 in
theorem c_X4_isStoppedAt (l : Launch) {a0 : Nat} {x1 : Int} {x2 : Int} {σ : St} {po : Int → St → Prop} (hw : wp_X4_isStoppedAt a0 x1 x2 σ po) : MT l yX4_isStoppedAt cX4_isStoppedAt 3 (some .boolean) ({ frames := 1, cells := 0, slots := 0, locals := 21 } : Room) [wr 15 (some a0), wi x1, wi x2] σ (PI po) := by
  refine MT_of (by decide) (Nat.le_of_ble_eq_true rfl) (fun K hL hR hC hM => ?_)
  subst hL
  unfold wp_X4_isStoppedAt at hw
  show J K 0 [some (wr 15 (some a0)), some (wi x1), some (wi x2)] [] σ 0 0
  refine r_aload_n hC dX4_isStoppedAt_0 rfl ?_
  refine gf_X4_28 hC dX4_isStoppedAt_1 ?_
  refine r_bipush hC dX4_isStoppedAt_4 (by decide) ?_
  refine cl_X4_37 hC (c_X7_isWithin (kL K) hw) (by rw [hR]; decide) (Nat.le_of_ble_eq_true rfl) dX4_isStoppedAt_6 (fun r101 s101 hq => ?_)
  clear hw
  have hw := hq
  clear hq
  refine r_if_eq (tgt := 50) hC dX4_isStoppedAt_9 (by decide) (fun h => ?_) (fun h => ?_)
  · replace hw := hw.1 h
    refine r_iconst hC dX4_isStoppedAt_50 ?_
    exact r_zreturn hC hM (by decide) ⟨_, rfl, hw⟩ (by rw [hR]; decide) (by rw [hR]; decide) dX4_isStoppedAt_51
  · replace hw := hw.2 h
    refine r_aload_n hC dX4_isStoppedAt_12 rfl ?_
    refine gf_X4_9 hC dX4_isStoppedAt_13 ?_
    refine r_aload_n hC dX4_isStoppedAt_16 rfl ?_
    refine gf_X4_28 hC dX4_isStoppedAt_17 ?_
    refine r_iaload hC rfl (by decide) hw.1 dX4_isStoppedAt_20 ?_
    replace hw := hw.2
    refine r_iload_n hC dX4_isStoppedAt_21 rfl ?_
    refine r_icmp_ne (tgt := 50) hC dX4_isStoppedAt_22 (by decide) (fun h => ?_) (fun h => ?_)
    · replace hw := hw.1 h
      refine r_iconst hC dX4_isStoppedAt_50 ?_
      exact r_zreturn hC hM (by decide) ⟨_, rfl, hw⟩ (by rw [hR]; decide) (by rw [hR]; decide) dX4_isStoppedAt_51
    · replace hw := hw.2 h
      refine r_aload_n hC dX4_isStoppedAt_25 rfl ?_
      refine gf_X4_15 hC dX4_isStoppedAt_26 ?_
      refine r_aload_n hC dX4_isStoppedAt_29 rfl ?_
      refine gf_X4_28 hC dX4_isStoppedAt_30 ?_
      refine r_iaload hC rfl (by decide) hw.1 dX4_isStoppedAt_33 ?_
      replace hw := hw.2
      refine r_if_ne (tgt := 41) hC dX4_isStoppedAt_34 (by decide) (fun h => ?_) (fun h => ?_)
      · replace hw := hw.1 h
        refine r_iconst hC dX4_isStoppedAt_41 ?_
        refine r_iload_n hC dX4_isStoppedAt_42 rfl ?_
        refine r_icmp_ne (tgt := 50) hC dX4_isStoppedAt_43 (by decide) (fun h => ?_) (fun h => ?_)
        · replace hw := hw.1 h
          refine r_iconst hC dX4_isStoppedAt_50 ?_
          exact r_zreturn hC hM (by decide) ⟨_, rfl, hw⟩ (by rw [hR]; decide) (by rw [hR]; decide) dX4_isStoppedAt_51
        · replace hw := hw.2 h
          refine r_iconst hC dX4_isStoppedAt_46 ?_
          refine r_goto (tgt := 51) hC dX4_isStoppedAt_47 (by decide) ?_
          exact r_zreturn hC hM (by decide) ⟨_, rfl, hw⟩ (by rw [hR]; decide) (by rw [hR]; decide) dX4_isStoppedAt_51
      · replace hw := hw.2 h
        refine r_iconst hC dX4_isStoppedAt_37 ?_
        refine r_goto (tgt := 42) hC dX4_isStoppedAt_38 (by decide) ?_
        refine r_iload_n hC dX4_isStoppedAt_42 rfl ?_
        refine r_icmp_ne (tgt := 50) hC dX4_isStoppedAt_43 (by decide) (fun h => ?_) (fun h => ?_)
        · replace hw := hw.1 h
          refine r_iconst hC dX4_isStoppedAt_50 ?_
          exact r_zreturn hC hM (by decide) ⟨_, rfl, hw⟩ (by rw [hR]; decide) (by rw [hR]; decide) dX4_isStoppedAt_51
        · replace hw := hw.2 h
          refine r_iconst hC dX4_isStoppedAt_46 ?_
          refine r_goto (tgt := 51) hC dX4_isStoppedAt_47 (by decide) ?_
          exact r_zreturn hC hM (by decide) ⟨_, rfl, hw⟩ (by rw [hR]; decide) (by rw [hR]; decide) dX4_isStoppedAt_51
def wp_X7_stoppedAt_6 (po : Int → St → Prop) : Nat → Option Nat → Int → Int → Int → Int → St → Prop
  | 0, _, _, _, _, _, _ => False
  | n + 1, o1, x2, x3, x4, x5, σ => (nm (gI σ 2 0 0) ≤ nm x5 → po x4 σ) ∧
 (nm x5 < nm (gI σ 2 0 0) → wp_X7_inLine x5 σ (fun o101 s101 => (o101 = none → wp_X7_stoppedAt_6 po n o1 x2 x3 x4 (x5 + 1) s101) ∧
 (∀ a101, o101 = some a101 → wp_X2_waitsTo a101 3 o1 s101 (fun r101 s102 => (nm r101 = 0 → wp_X7_stoppedAt_6 po n o1 x2 x3 x4 (x5 + 1) s102) ∧
 (nm r101 ≠ 0 → wp_X4_isStoppedAt a101 x2 x3 s102 (fun r102 s103 => (nm r102 = 0 → wp_X7_stoppedAt_6 po n o1 x2 x3 x4 (x5 + 1) s103) ∧
 (nm r102 ≠ 0 → wp_X7_stoppedAt_6 po n o1 x2 x3 (x4 + 1) (x5 + 1) s103)))))))
set_option maxRecDepth 100000 in
set_option maxHeartbeats 4000000 in
theorem j_X7_stoppedAt_6 {K : JK} (hR : kRm K = ({ frames := 2, cells := 0, slots := 0, locals := 43 } : Room)) (hC : Cx K cX7_stoppedAt 7 RX7) {po : Int → St → Prop} (hM : Mx K (some .int) (PI po)) : ∀ (n : Nat) (o1 : Option Nat) (x2 : Int) (x3 : Int) (x4 : Int) (x5 : Int) (σ : St), wp_X7_stoppedAt_6 po n o1 x2 x3 x4 x5 σ → J K 6 [some (wr 0 (some 0)), some (wr 20 o1), some (wi x2), some (wi x3), some (wi x4), some (wi x5), none] [] σ 0 0 := by
  intro n
  induction n with
  | zero =>
    intro o1 x2 x3 x4 x5 σ hw
    exact False.elim hw
  | succ n ih =>
    intro o1 x2 x3 x4 x5 σ hw
    unfold wp_X7_stoppedAt_6 at hw
    refine r_iload hC dX7_stoppedAt_6 rfl ?_
    refine r_aload_n hC dX7_stoppedAt_8 rfl ?_
    refine gf_X7_31 hC dX7_stoppedAt_9 ?_
    refine r_icmp_ge (tgt := 60) hC dX7_stoppedAt_12 (by decide) (fun h => ?_) (fun h => ?_)
    · replace hw := hw.1 h
      refine r_iload hC dX7_stoppedAt_60 rfl ?_
      exact r_ireturn hC hM ⟨_, rfl, hw⟩ (by rw [hR]; decide) (by rw [hR]; decide) dX7_stoppedAt_62
    · replace hw := hw.2 h
      refine r_aload_n hC dX7_stoppedAt_15 rfl ?_
      refine r_iload hC dX7_stoppedAt_16 rfl ?_
      refine cl_X7_230 hC (c_X7_inLine (kL K) hw) (by rw [hR]; decide) (Nat.le_of_ble_eq_true rfl) dX7_stoppedAt_18 (fun o101 s101 hq => ?_)
      clear hw
      have hw := hq
      clear hq
      refine r_astore (l' := [_, _, _, _, _, _, _]) hC dX7_stoppedAt_21 rfl (by decide) rfl ?_
      refine r_aload hC dX7_stoppedAt_23 rfl ?_
      refine r_ifnull (tgt := 54) hC dX7_stoppedAt_25 (by decide) (fun h => ?_) (fun a101 h => ?_)
      · replace hw := hw.1 h
        subst h
        refine r_iinc (l' := [_, _, _, _, _, _, _]) hC dX7_stoppedAt_54 rfl rfl (by decide) rfl ?_
        refine r_goto (tgt := 6) hC dX7_stoppedAt_57 (by decide) ?_
        exact J.drop2 (ih o1 x2 x3 x4 (x5 + 1) s101 hw) ⟨rfl, rfl, rfl, rfl, rfl, rfl, trivial⟩
      · replace hw := hw.2 a101 h
        subst h
        refine r_aload hC dX7_stoppedAt_28 rfl ?_
        refine r_iconst hC dX7_stoppedAt_30 ?_
        refine r_aload_n hC dX7_stoppedAt_31 rfl ?_
        refine cl_X7_233 hC (c_X2_waitsTo (kL K) hw) (by rw [hR]; decide) (Nat.le_of_ble_eq_true rfl) dX7_stoppedAt_32 (fun r101 s102 hq => ?_)
        clear hw
        have hw := hq
        clear hq
        refine r_if_eq (tgt := 54) hC dX7_stoppedAt_35 (by decide) (fun h => ?_) (fun h => ?_)
        · replace hw := hw.1 h
          refine r_iinc (l' := [_, _, _, _, _, _, _]) hC dX7_stoppedAt_54 rfl rfl (by decide) rfl ?_
          refine r_goto (tgt := 6) hC dX7_stoppedAt_57 (by decide) ?_
          exact J.drop2 (ih o1 x2 x3 x4 (x5 + 1) s102 hw) ⟨rfl, rfl, rfl, rfl, rfl, rfl, trivial⟩
        · replace hw := hw.2 h
          refine r_aload hC dX7_stoppedAt_38 rfl ?_
          refine gf_X7_120 hC dX7_stoppedAt_40 ?_
          refine r_iload_n hC dX7_stoppedAt_43 rfl ?_
          refine r_iload_n hC dX7_stoppedAt_44 rfl ?_
          refine cl_X7_237 hC (c_X4_isStoppedAt (kL K) hw) (by rw [hR]; decide) (Nat.le_of_ble_eq_true rfl) dX7_stoppedAt_45 (fun r102 s103 hq => ?_)
          clear hw
          have hw := hq
          clear hq
          refine r_if_eq (tgt := 54) hC dX7_stoppedAt_48 (by decide) (fun h => ?_) (fun h => ?_)
          · replace hw := hw.1 h
            refine r_iinc (l' := [_, _, _, _, _, _, _]) hC dX7_stoppedAt_54 rfl rfl (by decide) rfl ?_
            refine r_goto (tgt := 6) hC dX7_stoppedAt_57 (by decide) ?_
            exact J.drop2 (ih o1 x2 x3 x4 (x5 + 1) s103 hw) ⟨rfl, rfl, rfl, rfl, rfl, rfl, trivial⟩
          · replace hw := hw.2 h
            refine r_iinc (l' := [_, _, _, _, _, _, _]) hC dX7_stoppedAt_51 rfl rfl (by decide) rfl ?_
            refine r_iinc (l' := [_, _, _, _, _, _, _]) hC dX7_stoppedAt_54 rfl rfl (by decide) rfl ?_
            refine r_goto (tgt := 6) hC dX7_stoppedAt_57 (by decide) ?_
            exact J.drop2 (ih o1 x2 x3 (x4 + 1) (x5 + 1) s103 hw) ⟨rfl, rfl, rfl, rfl, rfl, rfl, trivial⟩
def wp_X7_stoppedAt (o1 : Option Nat) (x2 : Int) (x3 : Int) (σ : St) (po : Int → St → Prop) : Prop := ∃ n9, wp_X7_stoppedAt_6 po n9 o1 x2 x3 0 0 σ
set_option maxRecDepth 100000 in
set_option maxHeartbeats 4000000 in
theorem c_X7_stoppedAt (l : Launch) {o1 : Option Nat} {x2 : Int} {x3 : Int} {σ : St} {po : Int → St → Prop} (hw : wp_X7_stoppedAt o1 x2 x3 σ po) : MT l yX7_stoppedAt cX7_stoppedAt 7 (some .int) ({ frames := 2, cells := 0, slots := 0, locals := 43 } : Room) [wr 0 (some 0), wr 20 o1, wi x2, wi x3] σ (PI po) := by
  refine MT_of (by decide) (Nat.le_of_ble_eq_true rfl) (fun K hL hR hC hM => ?_)
  subst hL
  unfold wp_X7_stoppedAt at hw
  show J K 0 [some (wr 0 (some 0)), some (wr 20 o1), some (wi x2), some (wi x3), none, none, none] [] σ 0 0
  refine r_iconst hC dX7_stoppedAt_0 ?_
  refine r_istore (l' := [_, _, _, _, _, _, _]) hC dX7_stoppedAt_1 rfl (by decide) rfl ?_
  refine r_iconst hC dX7_stoppedAt_3 ?_
  refine r_istore (l' := [_, _, _, _, _, _, _]) hC dX7_stoppedAt_4 rfl (by decide) rfl ?_
  obtain ⟨n9, hw⟩ := hw
  exact J.drop2 (j_X7_stoppedAt_6 hR hC hM n9 o1 x2 x3 0 0 σ hw) ⟨rfl, rfl, rfl, rfl, rfl, rfl, trivial⟩
def wp_X7_counter (x1 : Int) (x2 : Int) (x3 : Int) (σ : St) (po : Int → St → Prop) : Prop := wp_X7_isWithin x3 3 σ (fun r101 s101 => (nm r101 ≠ 0 → wp_X7_setIn x1 s101 (fun o101 s102 => (o101 = none → po (-1) s102) ∧
 (∀ a101, o101 = some a101 → 12 ≤ a101 ∧ wp_X0_hasCounter a101 x2 s102 (fun r102 s103 => (nm r102 ≠ 0 → (nm x3 ≠ 0 → (nm x3 ≠ nm 1 → (nm x3 ≠ nm 3 → wp_X7_stoppedAt (some a101) x2 0 s103 (fun r103 s104 => po r103 s104)) ∧
 (nm x3 = nm 3 → wp_X7_stoppedAt (some a101) x2 1 s103 (fun r104 s105 => po r104 s105))) ∧
 (nm x3 = nm 1 → (0 ≤ nm x2 ∧ nm x2 < 8) ∧ po (gI s103 47 a101 (nm x2).toNat) s103)) ∧
 (nm x3 = 0 → (0 ≤ nm x2 ∧ nm x2 < 8) ∧ po (gI s103 46 a101 (nm x2).toNat) s103)) ∧
 (nm r102 = 0 → po (-1) s103))))) ∧
 (nm r101 = 0 → po (-4) s101))
set_option maxRecDepth 100000 in
set_option maxHeartbeats 4000000 in
theorem c_X7_counter (l : Launch) {x1 : Int} {x2 : Int} {x3 : Int} {σ : St} {po : Int → St → Prop} (hw : wp_X7_counter x1 x2 x3 σ po) : MT l yX7_counter cX7_counter 5 (some .int) ({ frames := 3, cells := 0, slots := 0, locals := 69 } : Room) [wr 0 (some 0), wi x1, wi x2, wi x3] σ (PI po) := by
  refine MT_of (by decide) (Nat.le_of_ble_eq_true rfl) (fun K hL hR hC hM => ?_)
  subst hL
  unfold wp_X7_counter at hw
  show J K 0 [some (wr 0 (some 0)), some (wi x1), some (wi x2), some (wi x3), none] [] σ 0 0
  refine r_iload_n hC dX7_counter_0 rfl ?_
  refine r_iconst hC dX7_counter_1 ?_
  refine cl_X7_34 hC (c_X7_isWithin (kL K) hw) (by rw [hR]; decide) (Nat.le_of_ble_eq_true rfl) dX7_counter_2 (fun r101 s101 hq => ?_)
  clear hw
  have hw := hq
  clear hq
  refine r_if_ne (tgt := 11) hC dX7_counter_5 (by decide) (fun h => ?_) (fun h => ?_)
  · replace hw := hw.1 h
    refine r_aload_n hC dX7_counter_11 rfl ?_
    refine r_iload_n hC dX7_counter_12 rfl ?_
    refine cl_X7_56 hC (c_X7_setIn (kL K) hw) (by rw [hR]; decide) (Nat.le_of_ble_eq_true rfl) dX7_counter_13 (fun o101 s102 hq => ?_)
    clear hw
    have hw := hq
    clear hq
    refine r_astore (l' := [_, _, _, _, _]) hC dX7_counter_16 rfl (by decide) rfl ?_
    refine r_aload hC dX7_counter_18 rfl ?_
    refine r_ifnull (tgt := 32) hC dX7_counter_20 (by decide) (fun h => ?_) (fun a101 h => ?_)
    · replace hw := hw.1 h
      subst h
      refine r_iconst hC dX7_counter_32 ?_
      exact r_ireturn hC hM ⟨_, rfl, hw⟩ (by rw [hR]; decide) (by rw [hR]; decide) dX7_counter_33
    · replace hw := hw.2 a101 h
      subst h
      refine r_aload hC dX7_counter_23 rfl ?_
      refine r_iload_n hC dX7_counter_25 rfl ?_
      have h101 := hw.1
      replace hw := hw.2
      refine cl_X7_178 hC h101 (c_X0_hasCounter (kL K) hw) (by rw [hR]; decide) (Nat.le_of_ble_eq_true rfl) dX7_counter_26 (fun r102 s103 hq => ?_)
      clear hw
      have hw := hq
      clear hq
      refine r_if_ne (tgt := 34) hC dX7_counter_29 (by decide) (fun h => ?_) (fun h => ?_)
      · replace hw := hw.1 h
        refine r_iload_n hC dX7_counter_34 rfl ?_
        refine r_if_ne (tgt := 46) hC dX7_counter_35 (by decide) (fun h => ?_) (fun h => ?_)
        · replace hw := hw.1 h
          refine r_iload_n hC dX7_counter_46 rfl ?_
          refine r_iconst hC dX7_counter_47 ?_
          refine r_icmp_ne (tgt := 61) hC dX7_counter_48 (by decide) (fun h => ?_) (fun h => ?_)
          · replace hw := hw.1 h
            refine r_aload_n hC dX7_counter_61 rfl ?_
            refine r_aload hC dX7_counter_62 rfl ?_
            refine r_iload_n hC dX7_counter_64 rfl ?_
            refine r_iload_n hC dX7_counter_65 rfl ?_
            refine r_iconst hC dX7_counter_66 ?_
            refine r_icmp_ne (tgt := 74) hC dX7_counter_67 (by decide) (fun h => ?_) (fun h => ?_)
            · replace hw := hw.1 h
              refine r_iconst hC dX7_counter_74 ?_
              refine cl_X7_187 hC (c_X7_stoppedAt (kL K) hw) (by rw [hR]; decide) (Nat.le_of_ble_eq_true rfl) dX7_counter_75 (fun r103 s104 hq => ?_)
              clear hw
              have hw := hq
              clear hq
              exact r_ireturn hC hM ⟨_, rfl, hw⟩ (by rw [hR]; decide) (by rw [hR]; decide) dX7_counter_78
            · replace hw := hw.2 h
              refine r_iconst hC dX7_counter_70 ?_
              refine r_goto (tgt := 75) hC dX7_counter_71 (by decide) ?_
              refine cl_X7_187 hC (c_X7_stoppedAt (kL K) hw) (by rw [hR]; decide) (Nat.le_of_ble_eq_true rfl) dX7_counter_75 (fun r104 s105 hq => ?_)
              clear hw
              have hw := hq
              clear hq
              exact r_ireturn hC hM ⟨_, rfl, hw⟩ (by rw [hR]; decide) (by rw [hR]; decide) dX7_counter_78
          · replace hw := hw.2 h
            refine r_aload hC dX7_counter_51 rfl ?_
            refine gf_X7_184 hC h101 dX7_counter_53 ?_
            refine r_iload_n hC dX7_counter_56 rfl ?_
            refine r_iaload hC rfl (by decide) hw.1 dX7_counter_57 ?_
            replace hw := hw.2
            refine r_goto (tgt := 78) hC dX7_counter_58 (by decide) ?_
            exact r_ireturn hC hM ⟨_, rfl, hw⟩ (by rw [hR]; decide) (by rw [hR]; decide) dX7_counter_78
        · replace hw := hw.2 h
          refine r_aload hC dX7_counter_38 rfl ?_
          refine gf_X7_181 hC h101 dX7_counter_40 ?_
          refine r_iload_n hC dX7_counter_43 rfl ?_
          refine r_iaload hC rfl (by decide) hw.1 dX7_counter_44 ?_
          replace hw := hw.2
          exact r_ireturn hC hM ⟨_, rfl, hw⟩ (by rw [hR]; decide) (by rw [hR]; decide) dX7_counter_45
      · replace hw := hw.2 h
        refine r_iconst hC dX7_counter_32 ?_
        exact r_ireturn hC hM ⟨_, rfl, hw⟩ (by rw [hR]; decide) (by rw [hR]; decide) dX7_counter_33
  · replace hw := hw.2 h
    refine r_bipush hC dX7_counter_8 (by decide) ?_
    exact r_ireturn hC hM ⟨_, rfl, hw⟩ (by rw [hR]; decide) (by rw [hR]; decide) dX7_counter_10
def wp_X7_undo (x1 : Int) (x2 : Int) (x3 : Int) (σ : St) (po : Int → St → Prop) : Prop := wp_X7_processAt x1 σ (fun o101 s101 => wp_X7_setIn x2 s101 (fun o102 s102 => (o101 = none → po 0 s102) ∧
 (∀ a101, o101 = some a101 → (o102 = none → po 0 s102) ∧
 (∀ a102, o102 = some a102 → 12 ≤ a102 ∧ wp_X0_undoOf a102 (gI s102 10 a101 0) x3 s102 (fun r101 s103 => po r101 s103)))))
set_option maxRecDepth 100000 in
set_option maxHeartbeats 4000000 in
theorem c_X7_undo (l : Launch) {x1 : Int} {x2 : Int} {x3 : Int} {σ : St} {po : Int → St → Prop} (hw : wp_X7_undo x1 x2 x3 σ po) : MT l yX7_undo cX7_undo 6 (some .int) ({ frames := 2, cells := 0, slots := 0, locals := 45 } : Room) [wr 0 (some 0), wi x1, wi x2, wi x3] σ (PI po) := by
  refine MT_of (by decide) (Nat.le_of_ble_eq_true rfl) (fun K hL hR hC hM => ?_)
  subst hL
  unfold wp_X7_undo at hw
  show J K 0 [some (wr 0 (some 0)), some (wi x1), some (wi x2), some (wi x3), none, none] [] σ 0 0
  refine r_aload_n hC dX7_undo_0 rfl ?_
  refine r_iload_n hC dX7_undo_1 rfl ?_
  refine cl_X7_41 hC (c_X7_processAt (kL K) hw) (by rw [hR]; decide) (Nat.le_of_ble_eq_true rfl) dX7_undo_2 (fun o101 s101 hq => ?_)
  clear hw
  have hw := hq
  clear hq
  refine r_astore (l' := [_, _, _, _, _, _]) hC dX7_undo_5 rfl (by decide) rfl ?_
  refine r_aload_n hC dX7_undo_7 rfl ?_
  refine r_iload_n hC dX7_undo_8 rfl ?_
  refine cl_X7_56 hC (c_X7_setIn (kL K) hw) (by rw [hR]; decide) (Nat.le_of_ble_eq_true rfl) dX7_undo_9 (fun o102 s102 hq => ?_)
  clear hw
  have hw := hq
  clear hq
  refine r_astore (l' := [_, _, _, _, _, _]) hC dX7_undo_12 rfl (by decide) rfl ?_
  refine r_aload hC dX7_undo_14 rfl ?_
  refine r_ifnull (tgt := 24) hC dX7_undo_16 (by decide) (fun h => ?_) (fun a101 h => ?_)
  · replace hw := hw.1 h
    subst h
    refine r_iconst hC dX7_undo_24 ?_
    refine r_goto (tgt := 39) hC dX7_undo_25 (by decide) ?_
    exact r_ireturn hC hM ⟨_, rfl, hw⟩ (by rw [hR]; decide) (by rw [hR]; decide) dX7_undo_39
  · replace hw := hw.2 a101 h
    subst h
    refine r_aload hC dX7_undo_19 rfl ?_
    refine r_ifnonnull (tgt := 28) hC dX7_undo_21 (by decide) (fun a102 h => ?_) (fun h => ?_)
    · replace hw := hw.2 a102 h
      subst h
      refine r_aload hC dX7_undo_28 rfl ?_
      refine r_aload hC dX7_undo_30 rfl ?_
      refine gf_X7_60 hC dX7_undo_32 ?_
      refine r_iload_n hC dX7_undo_35 rfl ?_
      have h101 := hw.1
      replace hw := hw.2
      refine cl_X7_191 hC h101 (c_X0_undoOf (kL K) hw) (by rw [hR]; decide) (Nat.le_of_ble_eq_true rfl) dX7_undo_36 (fun r101 s103 hq => ?_)
      clear hw
      have hw := hq
      clear hq
      exact r_ireturn hC hM ⟨_, rfl, hw⟩ (by rw [hR]; decide) (by rw [hR]; decide) dX7_undo_39
    · replace hw := hw.1 h
      subst h
      refine r_iconst hC dX7_undo_24 ?_
      refine r_goto (tgt := 39) hC dX7_undo_25 (by decide) ?_
      exact r_ireturn hC hM ⟨_, rfl, hw⟩ (by rw [hR]; decide) (by rw [hR]; decide) dX7_undo_39
def wp_X7_living_4 (po : Int → St → Prop) : Nat → Int → Int → St → Prop
  | 0, _, _, _ => False
  | n + 1, x1, x2, σ => (nm 16 ≤ nm x2 → po x1 σ) ∧
 (nm x2 < nm 16 → (0 ≤ nm x2 ∧ nm x2 < 16) ∧ ∀ o101, o101 = gR σ 1 0 (nm x2).toNat → (o101 = none → wp_X7_living_4 po n x1 (x2 + 1) σ) ∧
 (∀ a101, o101 = some a101 → (nm (gI σ 13 a101 0) = 0 → wp_X7_living_4 po n x1 (x2 + 1) σ) ∧
 (nm (gI σ 13 a101 0) ≠ 0 → wp_X7_living_4 po n (x1 + 1) (x2 + 1) σ)))
set_option maxRecDepth 100000 in
set_option maxHeartbeats 4000000 in
theorem j_X7_living_4 {K : JK} (hR : kRm K = ({ frames := 0, cells := 0, slots := 0, locals := 0 } : Room)) (hC : Cx K cX7_living 4 RX7) {po : Int → St → Prop} (hM : Mx K (some .int) (PI po)) : ∀ (n : Nat) (x1 : Int) (x2 : Int) (σ : St), wp_X7_living_4 po n x1 x2 σ → J K 4 [some (wr 0 (some 0)), some (wi x1), some (wi x2), none] [] σ 0 0 := by
  intro n
  induction n with
  | zero =>
    intro x1 x2 σ hw
    exact False.elim hw
  | succ n ih =>
    intro x1 x2 σ hw
    unfold wp_X7_living_4 at hw
    refine r_iload_n hC dX7_living_4 rfl ?_
    refine r_bipush hC dX7_living_5 (by decide) ?_
    refine r_icmp_ge (tgt := 37) hC dX7_living_7 (by decide) (fun h => ?_) (fun h => ?_)
    · replace hw := hw.1 h
      refine r_iload_n hC dX7_living_37 rfl ?_
      exact r_ireturn hC hM ⟨_, rfl, hw⟩ (by rw [hR]; decide) (by rw [hR]; decide) dX7_living_38
    · replace hw := hw.2 h
      refine r_aload_n hC dX7_living_10 rfl ?_
      refine gf_X7_11 hC dX7_living_11 ?_
      refine r_iload_n hC dX7_living_14 rfl ?_
      refine r_aaload hC (kd := 10) (Or.inl ⟨rfl, rfl⟩) (by decide) rfl hw.1 dX7_living_15 (fun o101 e9 => ?_)
      replace hw := hw.2 o101 e9
      clear e9
      refine r_astore_n (l' := [_, _, _, _]) hC dX7_living_16 rfl (by decide) rfl ?_
      refine r_aload_n hC dX7_living_17 rfl ?_
      refine r_ifnull (tgt := 31) hC dX7_living_18 (by decide) (fun h => ?_) (fun a101 h => ?_)
      · replace hw := hw.1 h
        subst h
        refine r_iinc (l' := [_, _, _, _]) hC dX7_living_31 rfl rfl (by decide) rfl ?_
        refine r_goto (tgt := 4) hC dX7_living_34 (by decide) ?_
        exact J.drop2 (ih x1 (x2 + 1) σ hw) ⟨rfl, rfl, rfl, trivial⟩
      · replace hw := hw.2 a101 h
        subst h
        refine r_aload_n hC dX7_living_21 rfl ?_
        refine gf_X7_45 hC dX7_living_22 ?_
        refine r_if_eq (tgt := 31) hC dX7_living_25 (by decide) (fun h => ?_) (fun h => ?_)
        · replace hw := hw.1 h
          refine r_iinc (l' := [_, _, _, _]) hC dX7_living_31 rfl rfl (by decide) rfl ?_
          refine r_goto (tgt := 4) hC dX7_living_34 (by decide) ?_
          exact J.drop2 (ih x1 (x2 + 1) σ hw) ⟨rfl, rfl, rfl, trivial⟩
        · replace hw := hw.2 h
          refine r_iinc (l' := [_, _, _, _]) hC dX7_living_28 rfl rfl (by decide) rfl ?_
          refine r_iinc (l' := [_, _, _, _]) hC dX7_living_31 rfl rfl (by decide) rfl ?_
          refine r_goto (tgt := 4) hC dX7_living_34 (by decide) ?_
          exact J.drop2 (ih (x1 + 1) (x2 + 1) σ hw) ⟨rfl, rfl, rfl, trivial⟩
def wp_X7_living  (σ : St) (po : Int → St → Prop) : Prop := ∃ n9, wp_X7_living_4 po n9 0 0 σ
set_option maxRecDepth 100000 in
set_option maxHeartbeats 4000000 in
theorem c_X7_living (l : Launch)  {σ : St} {po : Int → St → Prop} (hw : wp_X7_living  σ po) : MT l yX7_living cX7_living 4 (some .int) ({ frames := 0, cells := 0, slots := 0, locals := 0 } : Room) [wr 0 (some 0)] σ (PI po) := by
  refine MT_of (by decide) (Nat.le_of_ble_eq_true rfl) (fun K hL hR hC hM => ?_)
  subst hL
  unfold wp_X7_living at hw
  show J K 0 [some (wr 0 (some 0)), none, none, none] [] σ 0 0
  refine r_iconst hC dX7_living_0 ?_
  refine r_istore_n (l' := [_, _, _, _]) hC dX7_living_1 rfl (by decide) rfl ?_
  refine r_iconst hC dX7_living_2 ?_
  refine r_istore_n (l' := [_, _, _, _]) hC dX7_living_3 rfl (by decide) rfl ?_
  obtain ⟨n9, hw⟩ := hw
  exact J.drop2 (j_X7_living_4 hR hC hM n9 0 0 σ hw) ⟨rfl, rfl, rfl, trivial⟩
def wp_X7_thingsIn_4 (po : Int → St → Prop) : Nat → Nat → Option Nat → Int → Int → St → Prop
  | 0, _, _, _, _, _ => False
  | n + 1, k0, o0, x1, x2, σ => (nm 12 ≤ nm x2 → po x1 σ) ∧
 (nm x2 < nm 12 → wp_X7_thingIn k0 o0 x2 σ (fun o101 s101 => (o101 = none → wp_X7_thingsIn_4 po n k0 o0 x1 (x2 + 1) s101) ∧
 (∀ a101, o101 = some a101 → wp_X7_thingsIn_4 po n k0 o0 (x1 + 1) (x2 + 1) s101)))
set_option maxRecDepth 100000 in
set_option maxHeartbeats 4000000 in
theorem j_X7_thingsIn_4 {K : JK} (hR : kRm K = ({ frames := 1, cells := 0, slots := 0, locals := 22 } : Room)) (hC : Cx K cX7_thingsIn 3 RX7) {po : Int → St → Prop} (hM : Mx K (some .int) (PI po)) : ∀ (n : Nat) (k0 : Nat) (o0 : Option Nat) (x1 : Int) (x2 : Int) (σ : St), wp_X7_thingsIn_4 po n k0 o0 x1 x2 σ → J K 4 [some (wr k0 o0), some (wi x1), some (wi x2)] [] σ 0 0 := by
  intro n
  induction n with
  | zero =>
    intro k0 o0 x1 x2 σ hw
    exact False.elim hw
  | succ n ih =>
    intro k0 o0 x1 x2 σ hw
    unfold wp_X7_thingsIn_4 at hw
    refine r_iload_n hC dX7_thingsIn_4 rfl ?_
    refine r_bipush hC dX7_thingsIn_5 (by decide) ?_
    refine r_icmp_ge (tgt := 27) hC dX7_thingsIn_7 (by decide) (fun h => ?_) (fun h => ?_)
    · replace hw := hw.1 h
      refine r_iload_n hC dX7_thingsIn_27 rfl ?_
      exact r_ireturn hC hM ⟨_, rfl, hw⟩ (by rw [hR]; decide) (by rw [hR]; decide) dX7_thingsIn_28
    · replace hw := hw.2 h
      refine r_aload_n hC dX7_thingsIn_10 rfl ?_
      refine r_iload_n hC dX7_thingsIn_11 rfl ?_
      refine cl_X7_212 hC (c_X7_thingIn (kL K) hw) (by rw [hR]; decide) (Nat.le_of_ble_eq_true rfl) dX7_thingsIn_12 (fun o101 s101 hq => ?_)
      clear hw
      have hw := hq
      clear hq
      refine r_ifnull (tgt := 21) hC dX7_thingsIn_15 (by decide) (fun h => ?_) (fun a101 h => ?_)
      · replace hw := hw.1 h
        subst h
        refine r_iinc (l' := [_, _, _]) hC dX7_thingsIn_21 rfl rfl (by decide) rfl ?_
        refine r_goto (tgt := 4) hC dX7_thingsIn_24 (by decide) ?_
        exact J.drop2 (ih k0 o0 x1 (x2 + 1) s101 hw) ⟨rfl, rfl, rfl, trivial⟩
      · replace hw := hw.2 a101 h
        subst h
        refine r_iinc (l' := [_, _, _]) hC dX7_thingsIn_18 rfl rfl (by decide) rfl ?_
        refine r_iinc (l' := [_, _, _]) hC dX7_thingsIn_21 rfl rfl (by decide) rfl ?_
        refine r_goto (tgt := 4) hC dX7_thingsIn_24 (by decide) ?_
        exact J.drop2 (ih k0 o0 (x1 + 1) (x2 + 1) s101 hw) ⟨rfl, rfl, rfl, trivial⟩
def wp_X7_thingsIn (k1 : Nat) (o1 : Option Nat) (σ : St) (po : Int → St → Prop) : Prop := ∃ n9, wp_X7_thingsIn_4 po n9 k1 o1 0 0 σ
set_option maxRecDepth 100000 in
set_option maxHeartbeats 4000000 in
theorem c_X7_thingsIn (l : Launch) {k1 : Nat} {o1 : Option Nat} {σ : St} {po : Int → St → Prop} (hw : wp_X7_thingsIn k1 o1 σ po) : MT l yX7_thingsIn cX7_thingsIn 3 (some .int) ({ frames := 1, cells := 0, slots := 0, locals := 22 } : Room) [wr k1 o1] σ (PI po) := by
  refine MT_of (by decide) (Nat.le_of_ble_eq_true rfl) (fun K hL hR hC hM => ?_)
  subst hL
  unfold wp_X7_thingsIn at hw
  show J K 0 [some (wr k1 o1), none, none] [] σ 0 0
  refine r_iconst hC dX7_thingsIn_0 ?_
  refine r_istore_n (l' := [_, _, _]) hC dX7_thingsIn_1 rfl (by decide) rfl ?_
  refine r_iconst hC dX7_thingsIn_2 ?_
  refine r_istore_n (l' := [_, _, _]) hC dX7_thingsIn_3 rfl (by decide) rfl ?_
  obtain ⟨n9, hw⟩ := hw
  exact J.drop2 (j_X7_thingsIn_4 hR hC hM n9 k1 o1 0 0 σ hw) ⟨rfl, rfl, rfl, trivial⟩
def wp_X7_allMessages_4 (po : Int → St → Prop) : Nat → Int → Int → St → Prop
  | 0, _, _, _ => False
  | n + 1, x1, x2, σ => (nm 12 ≤ nm x2 → po x1 σ) ∧
 (nm x2 < nm 12 → (0 ≤ nm x2 ∧ nm x2 < 12) ∧ ∀ o101, o101 = gR σ 2 0 (nm x2).toNat → (o101 = none → wp_X7_allMessages_4 po n x1 (x2 + 1) σ) ∧
 (∀ a101, o101 = some a101 → a101 < 12 ∧ (nm (gI σ 32 a101 0) = 0 → wp_X7_allMessages_4 po n x1 (x2 + 1) σ) ∧
 (nm (gI σ 32 a101 0) ≠ 0 → wp_X7_allMessages_4 po n (x1 + (gI σ 40 a101 0)) (x2 + 1) σ)))
set_option maxRecDepth 100000 in
set_option maxHeartbeats 4000000 in
theorem j_X7_allMessages_4 {K : JK} (hR : kRm K = ({ frames := 0, cells := 0, slots := 0, locals := 0 } : Room)) (hC : Cx K cX7_allMessages 5 RX7) {po : Int → St → Prop} (hM : Mx K (some .int) (PI po)) : ∀ (n : Nat) (x1 : Int) (x2 : Int) (σ : St), wp_X7_allMessages_4 po n x1 x2 σ → J K 4 [some (wr 0 (some 0)), some (wi x1), some (wi x2), none, none] [] σ 0 0 := by
  intro n
  induction n with
  | zero =>
    intro x1 x2 σ hw
    exact False.elim hw
  | succ n ih =>
    intro x1 x2 σ hw
    unfold wp_X7_allMessages_4 at hw
    refine r_iload_n hC dX7_allMessages_4 rfl ?_
    refine r_bipush hC dX7_allMessages_5 (by decide) ?_
    refine r_icmp_ge (tgt := 52) hC dX7_allMessages_7 (by decide) (fun h => ?_) (fun h => ?_)
    · replace hw := hw.1 h
      refine r_iload_n hC dX7_allMessages_52 rfl ?_
      exact r_ireturn hC hM ⟨_, rfl, hw⟩ (by rw [hR]; decide) (by rw [hR]; decide) dX7_allMessages_53
    · replace hw := hw.2 h
      refine r_aload_n hC dX7_allMessages_10 rfl ?_
      refine gf_X7_21 hC dX7_allMessages_11 ?_
      refine r_iload_n hC dX7_allMessages_14 rfl ?_
      refine r_aaload hC (kd := 20) (Or.inr (Or.inl ⟨rfl, rfl⟩)) (by decide) rfl hw.1 dX7_allMessages_15 (fun o101 e9 => ?_)
      replace hw := hw.2 o101 e9
      clear e9
      refine r_astore (l' := [_, _, _, _, _]) hC dX7_allMessages_16 rfl (by decide) rfl ?_
      refine r_aload hC dX7_allMessages_18 rfl ?_
      refine r_inst hC (ci := 3) rfl rfl (wg 363 (by decide +kernel) (by decide +kernel)) dX7_allMessages_20 (fun h => ?_) (fun a101 h => ?_)
      · replace hw := hw.1 h
        subst h
        refine r_if_eq (tgt := 46) hC dX7_allMessages_23 (by decide) (fun _ => ?_) (fun h => absurd h (by decide))
        refine r_iinc (l' := [_, _, _, _, _]) hC dX7_allMessages_46 rfl rfl (by decide) rfl ?_
        refine r_goto (tgt := 4) hC dX7_allMessages_49 (by decide) ?_
        exact J.drop2 (ih x1 (x2 + 1) σ hw) ⟨rfl, rfl, rfl, trivial⟩
      · replace hw := hw.2 a101 h
        subst h
        have h101 := hw.1
        replace hw := hw.2
        refine ⟨oCi_lt h101, ?_⟩
        refine r_if_eq (tgt := 46) hC dX7_allMessages_23 (by decide) (fun h => absurd h (by decide)) (fun _ => ?_)
        refine r_aload hC dX7_allMessages_26 rfl ?_
        refine r_cast hC (ci := 3) rfl rfl (wg 363 (by decide +kernel) (by decide +kernel)) dX7_allMessages_28 ⟨(fun a9 h9 => by cases h9; exact oCi_lt h101), ?_⟩
        refine r_astore_n (l' := [_, _, _, _, _]) hC dX7_allMessages_31 rfl (by decide) rfl ?_
        refine r_aload_n hC dX7_allMessages_32 rfl ?_
        refine gf_X7_225 hC dX7_allMessages_33 ?_
        refine r_if_eq (tgt := 46) hC dX7_allMessages_36 (by decide) (fun h => ?_) (fun h => ?_)
        · replace hw := hw.1 h
          refine r_iinc (l' := [_, _, _, _, _]) hC dX7_allMessages_46 rfl rfl (by decide) rfl ?_
          refine r_goto (tgt := 4) hC dX7_allMessages_49 (by decide) ?_
          exact J.drop2 (ih x1 (x2 + 1) σ hw) ⟨rfl, rfl, rfl, trivial⟩
        · replace hw := hw.2 h
          refine r_iload_n hC dX7_allMessages_39 rfl ?_
          refine r_aload_n hC dX7_allMessages_40 rfl ?_
          refine gf_X7_149 hC h101 dX7_allMessages_41 ?_
          refine r_iadd hC dX7_allMessages_44 ?_
          refine r_istore_n (l' := [_, _, _, _, _]) hC dX7_allMessages_45 rfl (by decide) rfl ?_
          refine r_iinc (l' := [_, _, _, _, _]) hC dX7_allMessages_46 rfl rfl (by decide) rfl ?_
          refine r_goto (tgt := 4) hC dX7_allMessages_49 (by decide) ?_
          exact J.drop2 (ih (x1 + (gI σ 40 a101 0)) (x2 + 1) σ hw) ⟨rfl, rfl, rfl, trivial⟩
def wp_X7_allMessages  (σ : St) (po : Int → St → Prop) : Prop := ∃ n9, wp_X7_allMessages_4 po n9 0 0 σ
set_option maxRecDepth 100000 in
set_option maxHeartbeats 4000000 in
theorem c_X7_allMessages (l : Launch)  {σ : St} {po : Int → St → Prop} (hw : wp_X7_allMessages  σ po) : MT l yX7_allMessages cX7_allMessages 5 (some .int) ({ frames := 0, cells := 0, slots := 0, locals := 0 } : Room) [wr 0 (some 0)] σ (PI po) := by
  refine MT_of (by decide) (Nat.le_of_ble_eq_true rfl) (fun K hL hR hC hM => ?_)
  subst hL
  unfold wp_X7_allMessages at hw
  show J K 0 [some (wr 0 (some 0)), none, none, none, none] [] σ 0 0
  refine r_iconst hC dX7_allMessages_0 ?_
  refine r_istore_n (l' := [_, _, _, _, _]) hC dX7_allMessages_1 rfl (by decide) rfl ?_
  refine r_iconst hC dX7_allMessages_2 ?_
  refine r_istore_n (l' := [_, _, _, _, _]) hC dX7_allMessages_3 rfl (by decide) rfl ?_
  obtain ⟨n9, hw⟩ := hw
  exact J.drop2 (j_X7_allMessages_4 hR hC hM n9 0 0 σ hw) ⟨rfl, rfl, rfl, trivial⟩
def wp_X7_count (x1 : Int) (σ : St) (po : Int → St → Prop) : Prop := (nm x1 = 0 → po (gI σ 1 0 0) σ) ∧
 (nm x1 = 1 → wp_X7_living  σ (fun r101 s101 => po r101 s101)) ∧
 (nm x1 = 2 → po (gI σ 2 0 0) σ) ∧
 (nm x1 = 3 → wp_X7_thingsIn 2 (some 0) σ (fun r102 s102 => po r102 s102)) ∧
 (nm x1 = 4 → wp_X7_thingsIn 3 (some 0) σ (fun r103 s103 => po r103 s103)) ∧
 (nm x1 = 5 → wp_X7_allBytes  σ (fun r104 s104 => po r104 s104)) ∧
 (nm x1 = 6 → wp_X7_allMessages  σ (fun r105 s105 => po r105 s105)) ∧
 ((nm x1 < 0 ∨ 6 < nm x1) → po (-4) σ)
set_option maxRecDepth 100000 in
set_option maxHeartbeats 4000000 in
theorem c_X7_count (l : Launch) {x1 : Int} {σ : St} {po : Int → St → Prop} (hw : wp_X7_count x1 σ po) : MT l yX7_count cX7_count 2 (some .int) ({ frames := 2, cells := 0, slots := 0, locals := 44 } : Room) [wr 0 (some 0), wi x1] σ (PI po) := by
  refine MT_of (by decide) (Nat.le_of_ble_eq_true rfl) (fun K hL hR hC hM => ?_)
  subst hL
  unfold wp_X7_count at hw
  show J K 0 [some (wr 0 (some 0)), some (wi x1)] [] σ 0 0
  refine r_iload_n hC dX7_count_0 rfl ?_
  have hsw : nm x1 = 0 ∨ nm x1 = 1 ∨ nm x1 = 2 ∨ nm x1 = 3 ∨ nm x1 = 4 ∨ nm x1 = 5 ∨ nm x1 = 6 ∨ (nm x1 < 0 ∨ 6 < nm x1) := by omega
  rcases hsw with h | h | h | h | h | h | h | h
  · replace hw := hw.1 h
    refine r_tabIn (tgt := 44) hC 0 h dX7_count_1 (by decide) (by decide) rfl (by decide) ?_
    refine r_aload_n hC dX7_count_44 rfl ?_
    refine gf_X7_15 hC dX7_count_45 ?_
    exact r_ireturn hC hM ⟨_, rfl, hw⟩ (by rw [hR]; decide) (by rw [hR]; decide) dX7_count_48
  · replace hw := hw.2.1 h
    refine r_tabIn (tgt := 49) hC 1 h dX7_count_1 (by decide) (by decide) rfl (by decide) ?_
    refine r_aload_n hC dX7_count_49 rfl ?_
    refine cl_X7_195 hC (c_X7_living (kL K) hw) (by rw [hR]; decide) (Nat.le_of_ble_eq_true rfl) dX7_count_50 (fun r101 s101 hq => ?_)
    clear hw
    have hw := hq
    clear hq
    exact r_ireturn hC hM ⟨_, rfl, hw⟩ (by rw [hR]; decide) (by rw [hR]; decide) dX7_count_53
  · replace hw := hw.2.2.1 h
    refine r_tabIn (tgt := 54) hC 2 h dX7_count_1 (by decide) (by decide) rfl (by decide) ?_
    refine r_aload_n hC dX7_count_54 rfl ?_
    refine gf_X7_31 hC dX7_count_55 ?_
    exact r_ireturn hC hM ⟨_, rfl, hw⟩ (by rw [hR]; decide) (by rw [hR]; decide) dX7_count_58
  · replace hw := hw.2.2.2.1 h
    refine r_tabIn (tgt := 59) hC 3 h dX7_count_1 (by decide) (by decide) rfl (by decide) ?_
    refine r_aload_n hC dX7_count_59 rfl ?_
    refine gf_X7_21 hC dX7_count_60 ?_
    refine cl_X7_199 hC (c_X7_thingsIn (kL K) hw) (by rw [hR]; decide) (Nat.le_of_ble_eq_true rfl) dX7_count_63 (fun r102 s102 hq => ?_)
    clear hw
    have hw := hq
    clear hq
    exact r_ireturn hC hM ⟨_, rfl, hw⟩ (by rw [hR]; decide) (by rw [hR]; decide) dX7_count_66
  · replace hw := hw.2.2.2.2.1 h
    refine r_tabIn (tgt := 67) hC 4 h dX7_count_1 (by decide) (by decide) rfl (by decide) ?_
    refine r_aload_n hC dX7_count_67 rfl ?_
    refine gf_X7_25 hC dX7_count_68 ?_
    refine cl_X7_199 hC (c_X7_thingsIn (kL K) hw) (by rw [hR]; decide) (Nat.le_of_ble_eq_true rfl) dX7_count_71 (fun r103 s103 hq => ?_)
    clear hw
    have hw := hq
    clear hq
    exact r_ireturn hC hM ⟨_, rfl, hw⟩ (by rw [hR]; decide) (by rw [hR]; decide) dX7_count_74
  · replace hw := hw.2.2.2.2.2.1 h
    refine r_tabIn (tgt := 75) hC 5 h dX7_count_1 (by decide) (by decide) rfl (by decide) ?_
    refine r_aload_n hC dX7_count_75 rfl ?_
    refine cl_X7_203 hC (c_X7_allBytes (kL K) hw) (by rw [hR]; decide) (Nat.le_of_ble_eq_true rfl) dX7_count_76 (fun r104 s104 hq => ?_)
    clear hw
    have hw := hq
    clear hq
    exact r_ireturn hC hM ⟨_, rfl, hw⟩ (by rw [hR]; decide) (by rw [hR]; decide) dX7_count_79
  · replace hw := hw.2.2.2.2.2.2.1 h
    refine r_tabIn (tgt := 80) hC 6 h dX7_count_1 (by decide) (by decide) rfl (by decide) ?_
    refine r_aload_n hC dX7_count_80 rfl ?_
    refine cl_X7_206 hC (c_X7_allMessages (kL K) hw) (by rw [hR]; decide) (Nat.le_of_ble_eq_true rfl) dX7_count_81 (fun r105 s105 hq => ?_)
    clear hw
    have hw := hq
    clear hq
    exact r_ireturn hC hM ⟨_, rfl, hw⟩ (by rw [hR]; decide) (by rw [hR]; decide) dX7_count_84
  · replace hw := hw.2.2.2.2.2.2.2 h
    refine r_tabOut (tgt := 85) hC h dX7_count_1 (by decide) ?_
    refine r_bipush hC dX7_count_85 (by decide) ?_
    exact r_ireturn hC hM ⟨_, rfl, hw⟩ (by rw [hR]; decide) (by rw [hR]; decide) dX7_count_87
def wp_X8_in (x1 : Int) (x2 : Int) (x3 : Int) (σ : St) (po : Int → St → Prop) : Prop := (nmL x1 < nmL x2 → po 0 σ) ∧
 (nmL x2 ≤ nmL x1 → (nmL x3 < nmL x1 → po 0 σ) ∧
 (nmL x1 ≤ nmL x3 → po 1 σ))
set_option maxRecDepth 100000 in
set_option maxHeartbeats 4000000 in
theorem c_X8_in (l : Launch) {x1 : Int} {x2 : Int} {x3 : Int} {σ : St} {po : Int → St → Prop} (hw : wp_X8_in x1 x2 x3 σ po) : MT l yX8_in cX8_in 6 (some .boolean) ({ frames := 0, cells := 0, slots := 0, locals := 0 } : Room) [wl x1, wl x2, wl x3] σ (PI po) := by
  refine MT_of (by decide) (Nat.le_of_ble_eq_true rfl) (fun K hL hR hC hM => ?_)
  subst hL
  unfold wp_X8_in at hw
  show J K 0 [some (wl x1), none, some (wl x2), none, some (wl x3), none] [] σ 0 0
  refine r_lload_n hC dX8_in_0 rfl ?_
  refine r_lload_n hC dX8_in_1 rfl ?_
  refine r_lcmp_lt (tgt := 17) hC dX8_in_2 dX8_in_3 (by decide) (fun h => ?_) (fun h => ?_)
  · replace hw := hw.1 h
    refine r_iconst hC dX8_in_17 ?_
    exact r_zreturn hC hM (by decide) ⟨_, rfl, hw⟩ (by rw [hR]; decide) (by rw [hR]; decide) dX8_in_18
  · replace hw := hw.2 h
    refine r_lload_n hC dX8_in_6 rfl ?_
    refine r_lload hC dX8_in_7 rfl ?_
    refine r_lcmp_gt (tgt := 17) hC dX8_in_9 dX8_in_10 (by decide) (fun h => ?_) (fun h => ?_)
    · replace hw := hw.1 h
      refine r_iconst hC dX8_in_17 ?_
      exact r_zreturn hC hM (by decide) ⟨_, rfl, hw⟩ (by rw [hR]; decide) (by rw [hR]; decide) dX8_in_18
    · replace hw := hw.2 h
      refine r_iconst hC dX8_in_13 ?_
      refine r_goto (tgt := 18) hC dX8_in_14 (by decide) ?_
      exact r_zreturn hC hM (by decide) ⟨_, rfl, hw⟩ (by rw [hR]; decide) (by rw [hR]; decide) dX8_in_18
def wp_X8_isProcess (x1 : Int) (σ : St) (po : Int → St → Prop) : Prop := wp_X8_in (nm x1) 0 (nm ((gI σ 100 0 0) - 1)) σ (fun r101 s101 => (r101 = 0 ∨ r101 = 1) ∧ po r101 s101)
set_option maxRecDepth 100000 in
set_option maxHeartbeats 4000000 in
theorem c_X8_isProcess (l : Launch) {x1 : Int} {σ : St} {po : Int → St → Prop} (hw : wp_X8_isProcess x1 σ po) : MT l yX8_isProcess cX8_isProcess 2 (some .boolean) ({ frames := 1, cells := 0, slots := 0, locals := 25 } : Room) [wr 30 (some 0), wi x1] σ (PI po) := by
  refine MT_of (by decide) (Nat.le_of_ble_eq_true rfl) (fun K hL hR hC hM => ?_)
  subst hL
  unfold wp_X8_isProcess at hw
  show J K 0 [some (wr 30 (some 0)), some (wi x1)] [] σ 0 0
  refine r_iload_n hC dX8_isProcess_0 rfl ?_
  refine r_i2l hC dX8_isProcess_1 ?_
  refine r_lconst hC 0 rfl dX8_isProcess_2 ?_
  refine r_aload_n hC dX8_isProcess_3 rfl ?_
  refine gf_X8_138 hC dX8_isProcess_4 ?_
  refine r_iconst hC dX8_isProcess_7 ?_
  refine r_isub hC dX8_isProcess_8 ?_
  refine r_i2l hC dX8_isProcess_9 ?_
  refine cl_X8_142 hC (c_X8_in (kL K) hw) (by rw [hR]; decide) (Nat.le_of_ble_eq_true rfl) dX8_isProcess_10 (fun r101 s101 hq => ?_)
  clear hw
  have hw := hq
  clear hq
  exact r_zreturn hC hM hw.1 ⟨_, rfl, hw.2⟩ (by rw [hR]; decide) (by rw [hR]; decide) dX8_isProcess_13
def wp_X8_isFree (x1 : Int) (σ : St) (po : Int → St → Prop) : Prop := (0 ≤ nm x1 ∧ nm x1 < 16) ∧ (nm (gI σ 110 3 (nm x1).toNat) = 0 → po 0 σ) ∧
 (nm (gI σ 110 3 (nm x1).toNat) ≠ 0 → (0 ≤ nm x1 ∧ nm x1 < 16) ∧ (nm (gI σ 110 7 (nm x1).toNat) ≠ 0 → po 0 σ) ∧
 (nm (gI σ 110 7 (nm x1).toNat) = 0 → po 1 σ))
set_option maxRecDepth 100000 in
set_option maxHeartbeats 4000000 in
theorem c_X8_isFree (l : Launch) {x1 : Int} {σ : St} {po : Int → St → Prop} (hw : wp_X8_isFree x1 σ po) : MT l yX8_isFree cX8_isFree 2 (some .boolean) ({ frames := 0, cells := 0, slots := 0, locals := 0 } : Room) [wr 30 (some 0), wi x1] σ (PI po) := by
  refine MT_of (by decide) (Nat.le_of_ble_eq_true rfl) (fun K hL hR hC hM => ?_)
  subst hL
  unfold wp_X8_isFree at hw
  show J K 0 [some (wr 30 (some 0)), some (wi x1)] [] σ 0 0
  refine r_aload_n hC dX8_isFree_0 rfl ?_
  refine gf_X8_16 hC dX8_isFree_1 ?_
  refine r_iload_n hC dX8_isFree_4 rfl ?_
  refine r_zaload hC rfl (by decide) hw.1 dX8_isFree_5 ?_
  replace hw := hw.2
  refine r_if_eq (tgt := 22) hC dX8_isFree_6 (by decide) (fun h => ?_) (fun h => ?_)
  · replace hw := hw.1 h
    refine r_iconst hC dX8_isFree_22 ?_
    exact r_zreturn hC hM (by decide) ⟨_, rfl, hw⟩ (by rw [hR]; decide) (by rw [hR]; decide) dX8_isFree_23
  · replace hw := hw.2 h
    refine r_aload_n hC dX8_isFree_9 rfl ?_
    refine gf_X8_30 hC dX8_isFree_10 ?_
    refine r_iload_n hC dX8_isFree_13 rfl ?_
    refine r_iaload hC rfl (by decide) hw.1 dX8_isFree_14 ?_
    replace hw := hw.2
    refine r_if_ne (tgt := 22) hC dX8_isFree_15 (by decide) (fun h => ?_) (fun h => ?_)
    · replace hw := hw.1 h
      refine r_iconst hC dX8_isFree_22 ?_
      exact r_zreturn hC hM (by decide) ⟨_, rfl, hw⟩ (by rw [hR]; decide) (by rw [hR]; decide) dX8_isFree_23
    · replace hw := hw.2 h
      refine r_iconst hC dX8_isFree_18 ?_
      refine r_goto (tgt := 23) hC dX8_isFree_19 (by decide) ?_
      exact r_zreturn hC hM (by decide) ⟨_, rfl, hw⟩ (by rw [hR]; decide) (by rw [hR]; decide) dX8_isFree_23
def wp_X8_tells (x1 : Int) (x2 : Int) (σ : St) (po : Int → St → Prop) : Prop := (0 ≤ nm x1 ∧ nm x1 < 16) ∧ ∀ s101, s101 = uI σ 110 4 (nm x1).toNat x2 → po x2 s101
set_option maxRecDepth 100000 in
set_option maxHeartbeats 4000000 in
theorem c_X8_tells (l : Launch) {x1 : Int} {x2 : Int} {σ : St} {po : Int → St → Prop} (hw : wp_X8_tells x1 x2 σ po) : MT l yX8_tells cX8_tells 3 (some .int) ({ frames := 0, cells := 0, slots := 0, locals := 0 } : Room) [wr 30 (some 0), wi x1, wi x2] σ (PI po) := by
  refine MT_of (by decide) (Nat.le_of_ble_eq_true rfl) (fun K hL hR hC hM => ?_)
  subst hL
  unfold wp_X8_tells at hw
  show J K 0 [some (wr 30 (some 0)), some (wi x1), some (wi x2)] [] σ 0 0
  refine r_aload_n hC dX8_tells_0 rfl ?_
  refine gf_X8_20 hC dX8_tells_1 ?_
  refine r_iload_n hC dX8_tells_4 rfl ?_
  refine r_iload_n hC dX8_tells_5 rfl ?_
  refine r_iastore hC rfl (by decide) hw.1 dX8_tells_6 (fun s101 e9 => ?_)
  replace hw := hw.2 s101 e9
  clear e9
  refine r_iload_n hC dX8_tells_7 rfl ?_
  exact r_ireturn hC hM ⟨_, rfl, hw⟩ (by rw [hR]; decide) (by rw [hR]; decide) dX8_tells_8
def wp_X8_slotOf (x1 : Int) (x2 : Int) (σ : St) (po : Int → St → Prop) : Prop := (0 ≤ nm x1 → (0 ≤ nm (x2 + (zrem x1 12)) ∧ nm (x2 + (zrem x1 12)) < 24) ∧ (nm (gI σ 110 24 (nm (x2 + (zrem x1 12))).toNat) = 0 → po (-1) σ) ∧
 (nm (gI σ 110 24 (nm (x2 + (zrem x1 12))).toNat) ≠ 0 → (0 ≤ nm (x2 + (zrem x1 12)) ∧ nm (x2 + (zrem x1 12)) < 24) ∧ (nm (gI σ 110 25 (nm (x2 + (zrem x1 12))).toNat) ≠ nm (zdiv x1 12) → po (-1) σ) ∧
 (nm (gI σ 110 25 (nm (x2 + (zrem x1 12))).toNat) = nm (zdiv x1 12) → po (x2 + (zrem x1 12)) σ))) ∧
 (nm x1 < 0 → po (-1) σ)
set_option maxRecDepth 100000 in
set_option maxHeartbeats 4000000 in
theorem c_X8_slotOf (l : Launch) {x1 : Int} {x2 : Int} {σ : St} {po : Int → St → Prop} (hw : wp_X8_slotOf x1 x2 σ po) : MT l yX8_slotOf cX8_slotOf 4 (some .int) ({ frames := 0, cells := 0, slots := 0, locals := 0 } : Room) [wr 30 (some 0), wi x1, wi x2] σ (PI po) := by
  refine MT_of (by decide) (Nat.le_of_ble_eq_true rfl) (fun K hL hR hC hM => ?_)
  subst hL
  unfold wp_X8_slotOf at hw
  show J K 0 [some (wr 30 (some 0)), some (wi x1), some (wi x2), none] [] σ 0 0
  refine r_iload_n hC dX8_slotOf_0 rfl ?_
  refine r_if_ge (tgt := 6) hC dX8_slotOf_1 (by decide) (fun h => ?_) (fun h => ?_)
  · replace hw := hw.1 h
    refine r_iload_n hC dX8_slotOf_6 rfl ?_
    refine r_iload_n hC dX8_slotOf_7 rfl ?_
    refine r_bipush hC dX8_slotOf_8 (by decide) ?_
    refine r_irem hC dX8_slotOf_10 (by decide) ?_
    refine r_iadd hC dX8_slotOf_11 ?_
    refine r_istore_n (l' := [_, _, _, _]) hC dX8_slotOf_12 rfl (by decide) rfl ?_
    refine r_aload_n hC dX8_slotOf_13 rfl ?_
    refine gf_X8_78 hC dX8_slotOf_14 ?_
    refine r_iload_n hC dX8_slotOf_17 rfl ?_
    refine r_zaload hC rfl (by decide) hw.1 dX8_slotOf_18 ?_
    replace hw := hw.2
    refine r_if_eq (tgt := 39) hC dX8_slotOf_19 (by decide) (fun h => ?_) (fun h => ?_)
    · replace hw := hw.1 h
      refine r_iconst hC dX8_slotOf_39 ?_
      exact r_ireturn hC hM ⟨_, rfl, hw⟩ (by rw [hR]; decide) (by rw [hR]; decide) dX8_slotOf_40
    · replace hw := hw.2 h
      refine r_aload_n hC dX8_slotOf_22 rfl ?_
      refine gf_X8_81 hC dX8_slotOf_23 ?_
      refine r_iload_n hC dX8_slotOf_26 rfl ?_
      refine r_iaload hC rfl (by decide) hw.1 dX8_slotOf_27 ?_
      replace hw := hw.2
      refine r_iload_n hC dX8_slotOf_28 rfl ?_
      refine r_bipush hC dX8_slotOf_29 (by decide) ?_
      refine r_idiv hC dX8_slotOf_31 (by decide) ?_
      refine r_icmp_ne (tgt := 39) hC dX8_slotOf_32 (by decide) (fun h => ?_) (fun h => ?_)
      · replace hw := hw.1 h
        refine r_iconst hC dX8_slotOf_39 ?_
        exact r_ireturn hC hM ⟨_, rfl, hw⟩ (by rw [hR]; decide) (by rw [hR]; decide) dX8_slotOf_40
      · replace hw := hw.2 h
        refine r_iload_n hC dX8_slotOf_35 rfl ?_
        refine r_goto (tgt := 40) hC dX8_slotOf_36 (by decide) ?_
        exact r_ireturn hC hM ⟨_, rfl, hw⟩ (by rw [hR]; decide) (by rw [hR]; decide) dX8_slotOf_40
  · replace hw := hw.2 h
    refine r_iconst hC dX8_slotOf_4 ?_
    exact r_ireturn hC hM ⟨_, rfl, hw⟩ (by rw [hR]; decide) (by rw [hR]; decide) dX8_slotOf_5
