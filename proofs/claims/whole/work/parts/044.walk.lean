/-! WALKS 4, printed by wip/whole/gen/mkwalks.py -/
def wp_X8_idOf (x1 : Int) (σ : St) (po : Int → St → Prop) : Prop := (0 ≤ nm x1 ∧ nm x1 < 24) ∧ po ((zrem x1 12) + (12 * (gI σ 110 25 (nm x1).toNat))) σ
set_option maxRecDepth 100000 in
set_option maxHeartbeats 4000000 in
theorem c_X8_idOf (l : Launch) {x1 : Int} {σ : St} {po : Int → St → Prop} (hw : wp_X8_idOf x1 σ po) : MT l yX8_idOf cX8_idOf 2 (some .int) ({ frames := 0, cells := 0, slots := 0, locals := 0 } : Room) [wr 30 (some 0), wi x1] σ (PI po) := by
  refine MT_of (by decide) (Nat.le_of_ble_eq_true rfl) (fun K hL hR hC hM => ?_)
  subst hL
  unfold wp_X8_idOf at hw
  show J K 0 [some (wr 30 (some 0)), some (wi x1)] [] σ 0 0
  refine r_iload_n hC dX8_idOf_0 rfl ?_
  refine r_bipush hC dX8_idOf_1 (by decide) ?_
  refine r_irem hC dX8_idOf_3 (by decide) ?_
  refine r_bipush hC dX8_idOf_4 (by decide) ?_
  refine r_aload_n hC dX8_idOf_6 rfl ?_
  refine gf_X8_81 hC dX8_idOf_7 ?_
  refine r_iload_n hC dX8_idOf_10 rfl ?_
  refine r_iaload hC rfl (by decide) hw.1 dX8_idOf_11 ?_
  replace hw := hw.2
  refine r_imul hC dX8_idOf_12 ?_
  refine r_iadd hC dX8_idOf_13 ?_
  exact r_ireturn hC hM ⟨_, rfl, hw⟩ (by rw [hR]; decide) (by rw [hR]; decide) dX8_idOf_14
def wp_X8_may (x1 : Int) (x2 : Int) (σ : St) (po : Int → St → Prop) : Prop := (0 ≤ nm x1 ∧ nm x1 < 16) ∧ (nm (gI σ 110 1 (nm x1).toNat) ≠ 0 → (0 ≤ nm x1 ∧ nm x1 < 16) ∧ (0 ≤ nm x2 ∧ nm x2 < 24) ∧ (nm (gI σ 110 1 (nm x1).toNat) = nm (gI σ 110 27 (nm x2).toNat) → (0 ≤ nm x2 ∧ nm x2 < 24) ∧ po (zand (zshr (gI σ 110 31 (nm x2).toNat) 6) 7) σ) ∧
 (nm (gI σ 110 1 (nm x1).toNat) ≠ nm (gI σ 110 27 (nm x2).toNat) → (0 ≤ nm x1 ∧ nm x1 < 16) ∧ (0 ≤ nm x2 ∧ nm x2 < 24) ∧ (nm (gI σ 110 1 (nm x1).toNat) ≠ nm (gI σ 110 29 (nm x2).toNat) → (0 ≤ nm x1 ∧ nm x1 < 16) ∧ (0 ≤ nm x2 ∧ nm x2 < 24) ∧ (nm (gI σ 110 2 (nm x1).toNat) = nm (gI σ 110 28 (nm x2).toNat) → (0 ≤ nm x2 ∧ nm x2 < 24) ∧ po (zand (zshr (gI σ 110 31 (nm x2).toNat) 3) 7) σ) ∧
 (nm (gI σ 110 2 (nm x1).toNat) ≠ nm (gI σ 110 28 (nm x2).toNat) → (0 ≤ nm x1 ∧ nm x1 < 16) ∧ (0 ≤ nm x2 ∧ nm x2 < 24) ∧ (nm (gI σ 110 2 (nm x1).toNat) ≠ nm (gI σ 110 30 (nm x2).toNat) → (0 ≤ nm x2 ∧ nm x2 < 24) ∧ po (zand (gI σ 110 31 (nm x2).toNat) 7) σ) ∧
 (nm (gI σ 110 2 (nm x1).toNat) = nm (gI σ 110 30 (nm x2).toNat) → (0 ≤ nm x2 ∧ nm x2 < 24) ∧ po (zand (zshr (gI σ 110 31 (nm x2).toNat) 3) 7) σ))) ∧
 (nm (gI σ 110 1 (nm x1).toNat) = nm (gI σ 110 29 (nm x2).toNat) → (0 ≤ nm x2 ∧ nm x2 < 24) ∧ po (zand (zshr (gI σ 110 31 (nm x2).toNat) 6) 7) σ))) ∧
 (nm (gI σ 110 1 (nm x1).toNat) = 0 → po 7 σ)
set_option maxRecDepth 100000 in
set_option maxHeartbeats 4000000 in
theorem c_X8_may (l : Launch) {x1 : Int} {x2 : Int} {σ : St} {po : Int → St → Prop} (hw : wp_X8_may x1 x2 σ po) : MT l yX8_may cX8_may 3 (some .int) ({ frames := 0, cells := 0, slots := 0, locals := 0 } : Room) [wr 30 (some 0), wi x1, wi x2] σ (PI po) := by
  refine MT_of (by decide) (Nat.le_of_ble_eq_true rfl) (fun K hL hR hC hM => ?_)
  subst hL
  unfold wp_X8_may at hw
  show J K 0 [some (wr 30 (some 0)), some (wi x1), some (wi x2)] [] σ 0 0
  refine r_aload_n hC dX8_may_0 rfl ?_
  refine gf_X8_7 hC dX8_may_1 ?_
  refine r_iload_n hC dX8_may_4 rfl ?_
  refine r_iaload hC rfl (by decide) hw.1 dX8_may_5 ?_
  replace hw := hw.2
  refine r_if_ne (tgt := 12) hC dX8_may_6 (by decide) (fun h => ?_) (fun h => ?_)
  · replace hw := hw.1 h
    refine r_aload_n hC dX8_may_12 rfl ?_
    refine gf_X8_7 hC dX8_may_13 ?_
    refine r_iload_n hC dX8_may_16 rfl ?_
    refine r_iaload hC rfl (by decide) hw.1 dX8_may_17 ?_
    replace hw := hw.2
    refine r_aload_n hC dX8_may_18 rfl ?_
    refine gf_X8_87 hC dX8_may_19 ?_
    refine r_iload_n hC dX8_may_22 rfl ?_
    refine r_iaload hC rfl (by decide) hw.1 dX8_may_23 ?_
    replace hw := hw.2
    refine r_icmp_eq (tgt := 42) hC dX8_may_24 (by decide) (fun h => ?_) (fun h => ?_)
    · replace hw := hw.1 h
      refine r_aload_n hC dX8_may_42 rfl ?_
      refine gf_X8_99 hC dX8_may_43 ?_
      refine r_iload_n hC dX8_may_46 rfl ?_
      refine r_iaload hC rfl (by decide) hw.1 dX8_may_47 ?_
      replace hw := hw.2
      refine r_bipush hC dX8_may_48 (by decide) ?_
      refine r_ishr hC dX8_may_50 ?_
      refine r_bipush hC dX8_may_51 (by decide) ?_
      refine r_iand hC dX8_may_53 ?_
      exact r_ireturn hC hM ⟨_, rfl, hw⟩ (by rw [hR]; decide) (by rw [hR]; decide) dX8_may_54
    · replace hw := hw.2 h
      refine r_aload_n hC dX8_may_27 rfl ?_
      refine gf_X8_7 hC dX8_may_28 ?_
      refine r_iload_n hC dX8_may_31 rfl ?_
      refine r_iaload hC rfl (by decide) hw.1 dX8_may_32 ?_
      replace hw := hw.2
      refine r_aload_n hC dX8_may_33 rfl ?_
      refine gf_X8_93 hC dX8_may_34 ?_
      refine r_iload_n hC dX8_may_37 rfl ?_
      refine r_iaload hC rfl (by decide) hw.1 dX8_may_38 ?_
      replace hw := hw.2
      refine r_icmp_ne (tgt := 55) hC dX8_may_39 (by decide) (fun h => ?_) (fun h => ?_)
      · replace hw := hw.1 h
        refine r_aload_n hC dX8_may_55 rfl ?_
        refine gf_X8_13 hC dX8_may_56 ?_
        refine r_iload_n hC dX8_may_59 rfl ?_
        refine r_iaload hC rfl (by decide) hw.1 dX8_may_60 ?_
        replace hw := hw.2
        refine r_aload_n hC dX8_may_61 rfl ?_
        refine gf_X8_90 hC dX8_may_62 ?_
        refine r_iload_n hC dX8_may_65 rfl ?_
        refine r_iaload hC rfl (by decide) hw.1 dX8_may_66 ?_
        replace hw := hw.2
        refine r_icmp_eq (tgt := 85) hC dX8_may_67 (by decide) (fun h => ?_) (fun h => ?_)
        · replace hw := hw.1 h
          refine r_aload_n hC dX8_may_85 rfl ?_
          refine gf_X8_99 hC dX8_may_86 ?_
          refine r_iload_n hC dX8_may_89 rfl ?_
          refine r_iaload hC rfl (by decide) hw.1 dX8_may_90 ?_
          replace hw := hw.2
          refine r_iconst hC dX8_may_91 ?_
          refine r_ishr hC dX8_may_92 ?_
          refine r_bipush hC dX8_may_93 (by decide) ?_
          refine r_iand hC dX8_may_95 ?_
          exact r_ireturn hC hM ⟨_, rfl, hw⟩ (by rw [hR]; decide) (by rw [hR]; decide) dX8_may_96
        · replace hw := hw.2 h
          refine r_aload_n hC dX8_may_70 rfl ?_
          refine gf_X8_13 hC dX8_may_71 ?_
          refine r_iload_n hC dX8_may_74 rfl ?_
          refine r_iaload hC rfl (by decide) hw.1 dX8_may_75 ?_
          replace hw := hw.2
          refine r_aload_n hC dX8_may_76 rfl ?_
          refine gf_X8_96 hC dX8_may_77 ?_
          refine r_iload_n hC dX8_may_80 rfl ?_
          refine r_iaload hC rfl (by decide) hw.1 dX8_may_81 ?_
          replace hw := hw.2
          refine r_icmp_ne (tgt := 97) hC dX8_may_82 (by decide) (fun h => ?_) (fun h => ?_)
          · replace hw := hw.1 h
            refine r_aload_n hC dX8_may_97 rfl ?_
            refine gf_X8_99 hC dX8_may_98 ?_
            refine r_iload_n hC dX8_may_101 rfl ?_
            refine r_iaload hC rfl (by decide) hw.1 dX8_may_102 ?_
            replace hw := hw.2
            refine r_bipush hC dX8_may_103 (by decide) ?_
            refine r_iand hC dX8_may_105 ?_
            exact r_ireturn hC hM ⟨_, rfl, hw⟩ (by rw [hR]; decide) (by rw [hR]; decide) dX8_may_106
          · replace hw := hw.2 h
            refine r_aload_n hC dX8_may_85 rfl ?_
            refine gf_X8_99 hC dX8_may_86 ?_
            refine r_iload_n hC dX8_may_89 rfl ?_
            refine r_iaload hC rfl (by decide) hw.1 dX8_may_90 ?_
            replace hw := hw.2
            refine r_iconst hC dX8_may_91 ?_
            refine r_ishr hC dX8_may_92 ?_
            refine r_bipush hC dX8_may_93 (by decide) ?_
            refine r_iand hC dX8_may_95 ?_
            exact r_ireturn hC hM ⟨_, rfl, hw⟩ (by rw [hR]; decide) (by rw [hR]; decide) dX8_may_96
      · replace hw := hw.2 h
        refine r_aload_n hC dX8_may_42 rfl ?_
        refine gf_X8_99 hC dX8_may_43 ?_
        refine r_iload_n hC dX8_may_46 rfl ?_
        refine r_iaload hC rfl (by decide) hw.1 dX8_may_47 ?_
        replace hw := hw.2
        refine r_bipush hC dX8_may_48 (by decide) ?_
        refine r_ishr hC dX8_may_50 ?_
        refine r_bipush hC dX8_may_51 (by decide) ?_
        refine r_iand hC dX8_may_53 ?_
        exact r_ireturn hC hM ⟨_, rfl, hw⟩ (by rw [hR]; decide) (by rw [hR]; decide) dX8_may_54
  · replace hw := hw.2 h
    refine r_bipush hC dX8_may_9 (by decide) ?_
    exact r_ireturn hC hM ⟨_, rfl, hw⟩ (by rw [hR]; decide) (by rw [hR]; decide) dX8_may_11
def wp_X8_hasAll (x1 : Int) (x2 : Int) (x3 : Int) (σ : St) (po : Int → St → Prop) : Prop := wp_X8_may x1 x2 σ (fun r101 s101 => (nm (zand r101 x3) ≠ nm x3 → po 0 s101) ∧
 (nm (zand r101 x3) = nm x3 → po 1 s101))
set_option maxRecDepth 100000 in
set_option maxHeartbeats 4000000 in
theorem c_X8_hasAll (l : Launch) {x1 : Int} {x2 : Int} {x3 : Int} {σ : St} {po : Int → St → Prop} (hw : wp_X8_hasAll x1 x2 x3 σ po) : MT l yX8_hasAll cX8_hasAll 4 (some .boolean) ({ frames := 1, cells := 0, slots := 0, locals := 22 } : Room) [wr 30 (some 0), wi x1, wi x2, wi x3] σ (PI po) := by
  refine MT_of (by decide) (Nat.le_of_ble_eq_true rfl) (fun K hL hR hC hM => ?_)
  subst hL
  unfold wp_X8_hasAll at hw
  show J K 0 [some (wr 30 (some 0)), some (wi x1), some (wi x2), some (wi x3)] [] σ 0 0
  refine r_aload_n hC dX8_hasAll_0 rfl ?_
  refine r_iload_n hC dX8_hasAll_1 rfl ?_
  refine r_iload_n hC dX8_hasAll_2 rfl ?_
  refine cl_X8_146 hC (c_X8_may (kL K) hw) (by rw [hR]; decide) (Nat.le_of_ble_eq_true rfl) dX8_hasAll_3 (fun r101 s101 hq => ?_)
  clear hw
  have hw := hq
  clear hq
  refine r_iload_n hC dX8_hasAll_6 rfl ?_
  refine r_iand hC dX8_hasAll_7 ?_
  refine r_iload_n hC dX8_hasAll_8 rfl ?_
  refine r_icmp_ne (tgt := 16) hC dX8_hasAll_9 (by decide) (fun h => ?_) (fun h => ?_)
  · replace hw := hw.1 h
    refine r_iconst hC dX8_hasAll_16 ?_
    exact r_zreturn hC hM (by decide) ⟨_, rfl, hw⟩ (by rw [hR]; decide) (by rw [hR]; decide) dX8_hasAll_17
  · replace hw := hw.2 h
    refine r_iconst hC dX8_hasAll_12 ?_
    refine r_goto (tgt := 17) hC dX8_hasAll_13 (by decide) ?_
    exact r_zreturn hC hM (by decide) ⟨_, rfl, hw⟩ (by rw [hR]; decide) (by rw [hR]; decide) dX8_hasAll_17
def wp_X8_rules (x1 : Int) (x2 : Int) (σ : St) (po : Int → St → Prop) : Prop := (0 ≤ nm x1 ∧ nm x1 < 16) ∧ (nm (gI σ 110 1 (nm x1).toNat) = 0 → po 1 σ) ∧
 (nm (gI σ 110 1 (nm x1).toNat) ≠ 0 → (0 ≤ nm x1 ∧ nm x1 < 16) ∧ (0 ≤ nm x2 ∧ nm x2 < 24) ∧ (nm (gI σ 110 1 (nm x1).toNat) = nm (gI σ 110 27 (nm x2).toNat) → po 1 σ) ∧
 (nm (gI σ 110 1 (nm x1).toNat) ≠ nm (gI σ 110 27 (nm x2).toNat) → (0 ≤ nm x1 ∧ nm x1 < 16) ∧ (0 ≤ nm x2 ∧ nm x2 < 24) ∧ (nm (gI σ 110 1 (nm x1).toNat) ≠ nm (gI σ 110 29 (nm x2).toNat) → po 0 σ) ∧
 (nm (gI σ 110 1 (nm x1).toNat) = nm (gI σ 110 29 (nm x2).toNat) → po 1 σ)))
set_option maxRecDepth 100000 in
set_option maxHeartbeats 4000000 in
theorem c_X8_rules (l : Launch) {x1 : Int} {x2 : Int} {σ : St} {po : Int → St → Prop} (hw : wp_X8_rules x1 x2 σ po) : MT l yX8_rules cX8_rules 3 (some .boolean) ({ frames := 0, cells := 0, slots := 0, locals := 0 } : Room) [wr 30 (some 0), wi x1, wi x2] σ (PI po) := by
  refine MT_of (by decide) (Nat.le_of_ble_eq_true rfl) (fun K hL hR hC hM => ?_)
  subst hL
  unfold wp_X8_rules at hw
  show J K 0 [some (wr 30 (some 0)), some (wi x1), some (wi x2)] [] σ 0 0
  refine r_aload_n hC dX8_rules_0 rfl ?_
  refine gf_X8_7 hC dX8_rules_1 ?_
  refine r_iload_n hC dX8_rules_4 rfl ?_
  refine r_iaload hC rfl (by decide) hw.1 dX8_rules_5 ?_
  replace hw := hw.2
  refine r_if_eq (tgt := 39) hC dX8_rules_6 (by decide) (fun h => ?_) (fun h => ?_)
  · replace hw := hw.1 h
    refine r_iconst hC dX8_rules_39 ?_
    refine r_goto (tgt := 44) hC dX8_rules_40 (by decide) ?_
    exact r_zreturn hC hM (by decide) ⟨_, rfl, hw⟩ (by rw [hR]; decide) (by rw [hR]; decide) dX8_rules_44
  · replace hw := hw.2 h
    refine r_aload_n hC dX8_rules_9 rfl ?_
    refine gf_X8_7 hC dX8_rules_10 ?_
    refine r_iload_n hC dX8_rules_13 rfl ?_
    refine r_iaload hC rfl (by decide) hw.1 dX8_rules_14 ?_
    replace hw := hw.2
    refine r_aload_n hC dX8_rules_15 rfl ?_
    refine gf_X8_87 hC dX8_rules_16 ?_
    refine r_iload_n hC dX8_rules_19 rfl ?_
    refine r_iaload hC rfl (by decide) hw.1 dX8_rules_20 ?_
    replace hw := hw.2
    refine r_icmp_eq (tgt := 39) hC dX8_rules_21 (by decide) (fun h => ?_) (fun h => ?_)
    · replace hw := hw.1 h
      refine r_iconst hC dX8_rules_39 ?_
      refine r_goto (tgt := 44) hC dX8_rules_40 (by decide) ?_
      exact r_zreturn hC hM (by decide) ⟨_, rfl, hw⟩ (by rw [hR]; decide) (by rw [hR]; decide) dX8_rules_44
    · replace hw := hw.2 h
      refine r_aload_n hC dX8_rules_24 rfl ?_
      refine gf_X8_7 hC dX8_rules_25 ?_
      refine r_iload_n hC dX8_rules_28 rfl ?_
      refine r_iaload hC rfl (by decide) hw.1 dX8_rules_29 ?_
      replace hw := hw.2
      refine r_aload_n hC dX8_rules_30 rfl ?_
      refine gf_X8_93 hC dX8_rules_31 ?_
      refine r_iload_n hC dX8_rules_34 rfl ?_
      refine r_iaload hC rfl (by decide) hw.1 dX8_rules_35 ?_
      replace hw := hw.2
      refine r_icmp_ne (tgt := 43) hC dX8_rules_36 (by decide) (fun h => ?_) (fun h => ?_)
      · replace hw := hw.1 h
        refine r_iconst hC dX8_rules_43 ?_
        exact r_zreturn hC hM (by decide) ⟨_, rfl, hw⟩ (by rw [hR]; decide) (by rw [hR]; decide) dX8_rules_44
      · replace hw := hw.2 h
        refine r_iconst hC dX8_rules_39 ?_
        refine r_goto (tgt := 44) hC dX8_rules_40 (by decide) ?_
        exact r_zreturn hC hM (by decide) ⟨_, rfl, hw⟩ (by rw [hR]; decide) (by rw [hR]; decide) dX8_rules_44
def wp_X8_process (x1 : Int) (x2 : Int) (σ : St) (po : Int → St → Prop) : Prop := wp_X8_in (nm x1) 0 99 σ (fun r101 s101 => (nm r101 = 0 → po (-4) s101) ∧
 (nm r101 ≠ 0 → wp_X8_in (nm x2) 0 99 s101 (fun r102 s102 => (nm r102 ≠ 0 → (nm (gI s102 100 0 0) ≠ nm 16 → (0 ≤ nm (gI s102 100 0 0) ∧ nm (gI s102 100 0 0) < 16) ∧ ∀ s103, s103 = uI s102 110 1 (nm (gI s102 100 0 0)).toNat x1 → (0 ≤ nm (gI s103 100 0 0) ∧ nm (gI s103 100 0 0) < 16) ∧ ∀ s104, s104 = uI s103 110 2 (nm (gI s103 100 0 0)).toNat x2 → (0 ≤ nm (gI s104 100 0 0) ∧ nm (gI s104 100 0 0) < 16) ∧ ∀ s105, s105 = uI s104 110 3 (nm (gI s104 100 0 0)).toNat 1 → ∀ s106, s106 = uI s105 100 0 0 ((gI s105 100 0 0) + 1) → po ((gI s106 100 0 0) - 1) s106) ∧
 (nm (gI s102 100 0 0) = nm 16 → po (-9) s102)) ∧
 (nm r102 = 0 → po (-4) s102))))
set_option maxRecDepth 100000 in
set_option maxHeartbeats 4000000 in
theorem c_X8_process (l : Launch) {x1 : Int} {x2 : Int} {σ : St} {po : Int → St → Prop} (hw : wp_X8_process x1 x2 σ po) : MT l yX8_process cX8_process 3 (some .int) ({ frames := 1, cells := 0, slots := 0, locals := 25 } : Room) [wr 30 (some 0), wi x1, wi x2] σ (PI po) := by
  refine MT_of (by decide) (Nat.le_of_ble_eq_true rfl) (fun K hL hR hC hM => ?_)
  subst hL
  unfold wp_X8_process at hw
  show J K 0 [some (wr 30 (some 0)), some (wi x1), some (wi x2)] [] σ 0 0
  refine r_iload_n hC dX8_process_0 rfl ?_
  refine r_i2l hC dX8_process_1 ?_
  refine r_lconst hC 0 rfl dX8_process_2 ?_
  refine r_ldc2 hC 99 (wg 926 (by decide +kernel) (by decide +kernel)) rfl dX8_process_3 ?_
  refine cl_X8_142 hC (c_X8_in (kL K) hw) (by rw [hR]; decide) (Nat.le_of_ble_eq_true rfl) dX8_process_6 (fun r101 s101 hq => ?_)
  clear hw
  have hw := hq
  clear hq
  refine r_if_eq (tgt := 24) hC dX8_process_9 (by decide) (fun h => ?_) (fun h => ?_)
  · replace hw := hw.1 h
    refine r_bipush hC dX8_process_24 (by decide) ?_
    exact r_ireturn hC hM ⟨_, rfl, hw⟩ (by rw [hR]; decide) (by rw [hR]; decide) dX8_process_26
  · replace hw := hw.2 h
    refine r_iload_n hC dX8_process_12 rfl ?_
    refine r_i2l hC dX8_process_13 ?_
    refine r_lconst hC 0 rfl dX8_process_14 ?_
    refine r_ldc2 hC 99 (wg 926 (by decide +kernel) (by decide +kernel)) rfl dX8_process_15 ?_
    refine cl_X8_142 hC (c_X8_in (kL K) hw) (by rw [hR]; decide) (Nat.le_of_ble_eq_true rfl) dX8_process_18 (fun r102 s102 hq => ?_)
    clear hw
    have hw := hq
    clear hq
    refine r_if_ne (tgt := 27) hC dX8_process_21 (by decide) (fun h => ?_) (fun h => ?_)
    · replace hw := hw.1 h
      refine r_aload_n hC dX8_process_27 rfl ?_
      refine gf_X8_138 hC dX8_process_28 ?_
      refine r_bipush hC dX8_process_31 (by decide) ?_
      refine r_icmp_ne (tgt := 39) hC dX8_process_33 (by decide) (fun h => ?_) (fun h => ?_)
      · replace hw := hw.1 h
        refine r_aload_n hC dX8_process_39 rfl ?_
        refine gf_X8_7 hC dX8_process_40 ?_
        refine r_aload_n hC dX8_process_43 rfl ?_
        refine gf_X8_138 hC dX8_process_44 ?_
        refine r_iload_n hC dX8_process_47 rfl ?_
        refine r_iastore hC rfl (by decide) hw.1 dX8_process_48 (fun s103 e9 => ?_)
        replace hw := hw.2 s103 e9
        clear e9
        refine r_aload_n hC dX8_process_49 rfl ?_
        refine gf_X8_13 hC dX8_process_50 ?_
        refine r_aload_n hC dX8_process_53 rfl ?_
        refine gf_X8_138 hC dX8_process_54 ?_
        refine r_iload_n hC dX8_process_57 rfl ?_
        refine r_iastore hC rfl (by decide) hw.1 dX8_process_58 (fun s104 e9 => ?_)
        replace hw := hw.2 s104 e9
        clear e9
        refine r_aload_n hC dX8_process_59 rfl ?_
        refine gf_X8_16 hC dX8_process_60 ?_
        refine r_aload_n hC dX8_process_63 rfl ?_
        refine gf_X8_138 hC dX8_process_64 ?_
        refine r_iconst hC dX8_process_67 ?_
        refine r_zastore hC (by decide) rfl (by decide) hw.1 dX8_process_68 (fun s105 e9 => ?_)
        replace hw := hw.2 s105 e9
        clear e9
        refine r_aload_n hC dX8_process_69 rfl ?_
        refine r_dup hC dX8_process_70 rfl ?_
        refine gf_X8_138 hC dX8_process_71 ?_
        refine r_iconst hC dX8_process_74 ?_
        refine r_iadd hC dX8_process_75 ?_
        refine pf_X8_138 hC dX8_process_76 (fun s106 e9 => ?_)
        replace hw := hw s106 e9
        clear e9
        refine r_aload_n hC dX8_process_79 rfl ?_
        refine gf_X8_138 hC dX8_process_80 ?_
        refine r_iconst hC dX8_process_83 ?_
        refine r_isub hC dX8_process_84 ?_
        exact r_ireturn hC hM ⟨_, rfl, hw⟩ (by rw [hR]; decide) (by rw [hR]; decide) dX8_process_85
      · replace hw := hw.2 h
        refine r_bipush hC dX8_process_36 (by decide) ?_
        exact r_ireturn hC hM ⟨_, rfl, hw⟩ (by rw [hR]; decide) (by rw [hR]; decide) dX8_process_38
    · replace hw := hw.2 h
      refine r_bipush hC dX8_process_24 (by decide) ?_
      exact r_ireturn hC hM ⟨_, rfl, hw⟩ (by rw [hR]; decide) (by rw [hR]; decide) dX8_process_26
def wp_X8_goesOn (x1 : Int) (x2 : Int) (σ : St) (po : St → Prop) : Prop := (0 ≤ nm x1 ∧ nm x1 < 16) ∧ ∀ s101, s101 = uI σ 110 7 (nm x1).toNat 0 → (0 ≤ nm x1 ∧ nm x1 < 16) ∧ ∀ s102, s102 = uI s101 110 4 (nm x1).toNat x2 → po s102
set_option maxRecDepth 100000 in
set_option maxHeartbeats 4000000 in
theorem c_X8_goesOn (l : Launch) {x1 : Int} {x2 : Int} {σ : St} {po : St → Prop} (hw : wp_X8_goesOn x1 x2 σ po) : MT l yX8_goesOn cX8_goesOn 3 none ({ frames := 0, cells := 0, slots := 0, locals := 0 } : Room) [wr 30 (some 0), wi x1, wi x2] σ (PV po) := by
  refine MT_of (by decide) (Nat.le_of_ble_eq_true rfl) (fun K hL hR hC hM => ?_)
  subst hL
  unfold wp_X8_goesOn at hw
  show J K 0 [some (wr 30 (some 0)), some (wi x1), some (wi x2)] [] σ 0 0
  refine r_aload_n hC dX8_goesOn_0 rfl ?_
  refine gf_X8_30 hC dX8_goesOn_1 ?_
  refine r_iload_n hC dX8_goesOn_4 rfl ?_
  refine r_iconst hC dX8_goesOn_5 ?_
  refine r_iastore hC rfl (by decide) hw.1 dX8_goesOn_6 (fun s101 e9 => ?_)
  replace hw := hw.2 s101 e9
  clear e9
  refine r_aload_n hC dX8_goesOn_7 rfl ?_
  refine gf_X8_20 hC dX8_goesOn_8 ?_
  refine r_iload_n hC dX8_goesOn_11 rfl ?_
  refine r_iload_n hC dX8_goesOn_12 rfl ?_
  refine r_iastore hC rfl (by decide) hw.1 dX8_goesOn_13 (fun s102 e9 => ?_)
  replace hw := hw.2 s102 e9
  clear e9
  exact r_vreturn hC hM ⟨rfl, hw⟩ (by rw [hR]; decide) (by rw [hR]; decide) dX8_goesOn_14
def wp_X8_waiter_57 (po : Int → St → Prop) (X6 : Int → Int → Int → Int → Int → St → Prop) (x1 : Int) (x2 : Int) (x3 : Int) (x4 : Int) (x5 : Int) (y0 : Int) (σ : St) : Prop := (nm y0 = 0 → X6 x1 x2 x3 x4 (x5 + 1) σ) ∧
 (nm y0 ≠ 0 → (nm x4 < 0 → X6 x1 x2 x3 x5 (x5 + 1) σ) ∧
 (0 ≤ nm x4 → (0 ≤ nm x5 ∧ nm x5 < 16) ∧ (0 ≤ nm x4 ∧ nm x4 < 16) ∧ (nm (gI σ 110 8 (nm x4).toNat) ≤ nm (gI σ 110 8 (nm x5).toNat) → X6 x1 x2 x3 x4 (x5 + 1) σ) ∧
 (nm (gI σ 110 8 (nm x5).toNat) < nm (gI σ 110 8 (nm x4).toNat) → X6 x1 x2 x3 x5 (x5 + 1) σ)))
set_option maxRecDepth 100000 in
set_option maxHeartbeats 4000000 in
theorem j_X8_waiter_57 {K : JK} (hR : kRm K = ({ frames := 0, cells := 0, slots := 0, locals := 0 } : Room)) (hC : Cx K cX8_waiter 7 RX8) {po : Int → St → Prop} (hM : Mx K (some .int) (PI po)) {X6 : Int → Int → Int → Int → Int → St → Prop} (hX6 : ∀ (x1 : Int) (x2 : Int) (x3 : Int) (x4 : Int) (x5 : Int) (σ : St), X6 x1 x2 x3 x4 x5 σ → J K 6 [some (wr 30 (some 0)), some (wi x1), some (wi x2), some (wi x3), some (wi x4), some (wi x5), none] [] σ 0 0) : ∀ (x1 : Int) (x2 : Int) (x3 : Int) (x4 : Int) (x5 : Int) (y0 : Int) (σ : St), wp_X8_waiter_57 po X6 x1 x2 x3 x4 x5 y0 σ → J K 57 [some (wr 30 (some 0)), some (wi x1), some (wi x2), some (wi x3), some (wi x4), some (wi x5), none] [wi y0] σ 0 0 := by
  intro x1 x2 x3 x4 x5 y0 σ hw
  unfold wp_X8_waiter_57 at hw
  refine r_istore (l' := [_, _, _, _, _, _, _]) hC dX8_waiter_57 rfl (by decide) rfl ?_
  refine r_iload hC dX8_waiter_59 rfl ?_
  refine r_if_eq (tgt := 91) hC dX8_waiter_61 (by decide) (fun h => ?_) (fun h => ?_)
  · replace hw := hw.1 h
    refine r_iload hC dX8_waiter_91 rfl ?_
    refine r_istore (l' := [_, _, _, _, _, _, _]) hC dX8_waiter_93 rfl (by decide) rfl ?_
    refine r_iinc (l' := [_, _, _, _, _, _, _]) hC dX8_waiter_95 rfl rfl (by decide) rfl ?_
    refine r_goto (tgt := 6) hC dX8_waiter_98 (by decide) ?_
    exact J.drop2 (hX6 x1 x2 x3 x4 (x5 + 1) σ hw) ⟨rfl, rfl, rfl, rfl, rfl, rfl, trivial⟩
  · replace hw := hw.2 h
    refine r_iload hC dX8_waiter_64 rfl ?_
    refine r_if_lt (tgt := 86) hC dX8_waiter_66 (by decide) (fun h => ?_) (fun h => ?_)
    · replace hw := hw.1 h
      refine r_iload hC dX8_waiter_86 rfl ?_
      refine r_goto (tgt := 93) hC dX8_waiter_88 (by decide) ?_
      refine r_istore (l' := [_, _, _, _, _, _, _]) hC dX8_waiter_93 rfl (by decide) rfl ?_
      refine r_iinc (l' := [_, _, _, _, _, _, _]) hC dX8_waiter_95 rfl rfl (by decide) rfl ?_
      refine r_goto (tgt := 6) hC dX8_waiter_98 (by decide) ?_
      exact J.drop2 (hX6 x1 x2 x3 x5 (x5 + 1) σ hw) ⟨rfl, rfl, rfl, rfl, rfl, rfl, trivial⟩
    · replace hw := hw.2 h
      refine r_aload_n hC dX8_waiter_69 rfl ?_
      refine gf_X8_33 hC dX8_waiter_70 ?_
      refine r_iload hC dX8_waiter_73 rfl ?_
      refine r_iaload hC rfl (by decide) hw.1 dX8_waiter_75 ?_
      replace hw := hw.2
      refine r_aload_n hC dX8_waiter_76 rfl ?_
      refine gf_X8_33 hC dX8_waiter_77 ?_
      refine r_iload hC dX8_waiter_80 rfl ?_
      refine r_iaload hC rfl (by decide) hw.1 dX8_waiter_82 ?_
      replace hw := hw.2
      refine r_icmp_ge (tgt := 91) hC dX8_waiter_83 (by decide) (fun h => ?_) (fun h => ?_)
      · replace hw := hw.1 h
        refine r_iload hC dX8_waiter_91 rfl ?_
        refine r_istore (l' := [_, _, _, _, _, _, _]) hC dX8_waiter_93 rfl (by decide) rfl ?_
        refine r_iinc (l' := [_, _, _, _, _, _, _]) hC dX8_waiter_95 rfl rfl (by decide) rfl ?_
        refine r_goto (tgt := 6) hC dX8_waiter_98 (by decide) ?_
        exact J.drop2 (hX6 x1 x2 x3 x4 (x5 + 1) σ hw) ⟨rfl, rfl, rfl, rfl, rfl, rfl, trivial⟩
      · replace hw := hw.2 h
        refine r_iload hC dX8_waiter_86 rfl ?_
        refine r_goto (tgt := 93) hC dX8_waiter_88 (by decide) ?_
        refine r_istore (l' := [_, _, _, _, _, _, _]) hC dX8_waiter_93 rfl (by decide) rfl ?_
        refine r_iinc (l' := [_, _, _, _, _, _, _]) hC dX8_waiter_95 rfl rfl (by decide) rfl ?_
        refine r_goto (tgt := 6) hC dX8_waiter_98 (by decide) ?_
        exact J.drop2 (hX6 x1 x2 x3 x5 (x5 + 1) σ hw) ⟨rfl, rfl, rfl, rfl, rfl, rfl, trivial⟩
def wp_X8_waiter_6 (po : Int → St → Prop) : Nat → Int → Int → Int → Int → Int → St → Prop
  | 0, _, _, _, _, _, _ => False
  | n + 1, x1, x2, x3, x4, x5, σ => (nm (gI σ 100 0 0) ≤ nm x5 → po x4 σ) ∧
 (nm x5 < nm (gI σ 100 0 0) → (0 ≤ nm x5 ∧ nm x5 < 16) ∧ (nm (gI σ 110 7 (nm x5).toNat) ≠ nm x1 → wp_X8_waiter_57 po (fun x1 x2 x3 x4 x5 s9 => wp_X8_waiter_6 po n x1 x2 x3 x4 x5 s9) x1 x2 x3 x4 x5 0 σ) ∧
 (nm (gI σ 110 7 (nm x5).toNat) = nm x1 → (nm x2 < 0 → (0 ≤ nm x5 ∧ nm x5 < 16) ∧ (nm (gI σ 110 8 (nm x5).toNat) ≤ nm x3 → wp_X8_waiter_57 po (fun x1 x2 x3 x4 x5 s9 => wp_X8_waiter_6 po n x1 x2 x3 x4 x5 s9) x1 x2 x3 x4 x5 0 σ) ∧
 (nm x3 < nm (gI σ 110 8 (nm x5).toNat) → wp_X8_waiter_57 po (fun x1 x2 x3 x4 x5 s9 => wp_X8_waiter_6 po n x1 x2 x3 x4 x5 s9) x1 x2 x3 x4 x5 1 σ)) ∧
 (0 ≤ nm x2 → (0 ≤ nm x5 ∧ nm x5 < 16) ∧ (nm (gI σ 110 9 (nm x5).toNat) ≠ nm x2 → wp_X8_waiter_57 po (fun x1 x2 x3 x4 x5 s9 => wp_X8_waiter_6 po n x1 x2 x3 x4 x5 s9) x1 x2 x3 x4 x5 0 σ) ∧
 (nm (gI σ 110 9 (nm x5).toNat) = nm x2 → (0 ≤ nm x5 ∧ nm x5 < 16) ∧ (nm (gI σ 110 8 (nm x5).toNat) ≤ nm x3 → wp_X8_waiter_57 po (fun x1 x2 x3 x4 x5 s9 => wp_X8_waiter_6 po n x1 x2 x3 x4 x5 s9) x1 x2 x3 x4 x5 0 σ) ∧
 (nm x3 < nm (gI σ 110 8 (nm x5).toNat) → wp_X8_waiter_57 po (fun x1 x2 x3 x4 x5 s9 => wp_X8_waiter_6 po n x1 x2 x3 x4 x5 s9) x1 x2 x3 x4 x5 1 σ)))))
set_option maxRecDepth 100000 in
set_option maxHeartbeats 4000000 in
theorem j_X8_waiter_6 {K : JK} (hR : kRm K = ({ frames := 0, cells := 0, slots := 0, locals := 0 } : Room)) (hC : Cx K cX8_waiter 7 RX8) {po : Int → St → Prop} (hM : Mx K (some .int) (PI po)) : ∀ (n : Nat) (x1 : Int) (x2 : Int) (x3 : Int) (x4 : Int) (x5 : Int) (σ : St), wp_X8_waiter_6 po n x1 x2 x3 x4 x5 σ → J K 6 [some (wr 30 (some 0)), some (wi x1), some (wi x2), some (wi x3), some (wi x4), some (wi x5), none] [] σ 0 0 := by
  intro n
  induction n with
  | zero =>
    intro x1 x2 x3 x4 x5 σ hw
    exact False.elim hw
  | succ n ih =>
    intro x1 x2 x3 x4 x5 σ hw
    unfold wp_X8_waiter_6 at hw
    refine r_iload hC dX8_waiter_6 rfl ?_
    refine r_aload_n hC dX8_waiter_8 rfl ?_
    refine gf_X8_138 hC dX8_waiter_9 ?_
    refine r_icmp_ge (tgt := 101) hC dX8_waiter_12 (by decide) (fun h => ?_) (fun h => ?_)
    · replace hw := hw.1 h
      refine r_iload hC dX8_waiter_101 rfl ?_
      exact r_ireturn hC hM ⟨_, rfl, hw⟩ (by rw [hR]; decide) (by rw [hR]; decide) dX8_waiter_103
    · replace hw := hw.2 h
      refine r_aload_n hC dX8_waiter_15 rfl ?_
      refine gf_X8_30 hC dX8_waiter_16 ?_
      refine r_iload hC dX8_waiter_19 rfl ?_
      refine r_iaload hC rfl (by decide) hw.1 dX8_waiter_21 ?_
      replace hw := hw.2
      refine r_iload_n hC dX8_waiter_22 rfl ?_
      refine r_icmp_ne (tgt := 56) hC dX8_waiter_23 (by decide) (fun h => ?_) (fun h => ?_)
      · replace hw := hw.1 h
        refine r_iconst hC dX8_waiter_56 ?_
        exact J.drop2 (j_X8_waiter_57 hR hC hM ih x1 x2 x3 x4 x5 0 σ hw) ⟨rfl, rfl, rfl, rfl, rfl, rfl, trivial⟩
      · replace hw := hw.2 h
        refine r_iload_n hC dX8_waiter_26 rfl ?_
        refine r_if_lt (tgt := 41) hC dX8_waiter_27 (by decide) (fun h => ?_) (fun h => ?_)
        · replace hw := hw.1 h
          refine r_aload_n hC dX8_waiter_41 rfl ?_
          refine gf_X8_33 hC dX8_waiter_42 ?_
          refine r_iload hC dX8_waiter_45 rfl ?_
          refine r_iaload hC rfl (by decide) hw.1 dX8_waiter_47 ?_
          replace hw := hw.2
          refine r_iload_n hC dX8_waiter_48 rfl ?_
          refine r_icmp_le (tgt := 56) hC dX8_waiter_49 (by decide) (fun h => ?_) (fun h => ?_)
          · replace hw := hw.1 h
            refine r_iconst hC dX8_waiter_56 ?_
            exact J.drop2 (j_X8_waiter_57 hR hC hM ih x1 x2 x3 x4 x5 0 σ hw) ⟨rfl, rfl, rfl, rfl, rfl, rfl, trivial⟩
          · replace hw := hw.2 h
            refine r_iconst hC dX8_waiter_52 ?_
            refine r_goto (tgt := 57) hC dX8_waiter_53 (by decide) ?_
            exact J.drop2 (j_X8_waiter_57 hR hC hM ih x1 x2 x3 x4 x5 1 σ hw) ⟨rfl, rfl, rfl, rfl, rfl, rfl, trivial⟩
        · replace hw := hw.2 h
          refine r_aload_n hC dX8_waiter_30 rfl ?_
          refine gf_X8_36 hC dX8_waiter_31 ?_
          refine r_iload hC dX8_waiter_34 rfl ?_
          refine r_iaload hC rfl (by decide) hw.1 dX8_waiter_36 ?_
          replace hw := hw.2
          refine r_iload_n hC dX8_waiter_37 rfl ?_
          refine r_icmp_ne (tgt := 56) hC dX8_waiter_38 (by decide) (fun h => ?_) (fun h => ?_)
          · replace hw := hw.1 h
            refine r_iconst hC dX8_waiter_56 ?_
            exact J.drop2 (j_X8_waiter_57 hR hC hM ih x1 x2 x3 x4 x5 0 σ hw) ⟨rfl, rfl, rfl, rfl, rfl, rfl, trivial⟩
          · replace hw := hw.2 h
            refine r_aload_n hC dX8_waiter_41 rfl ?_
            refine gf_X8_33 hC dX8_waiter_42 ?_
            refine r_iload hC dX8_waiter_45 rfl ?_
            refine r_iaload hC rfl (by decide) hw.1 dX8_waiter_47 ?_
            replace hw := hw.2
            refine r_iload_n hC dX8_waiter_48 rfl ?_
            refine r_icmp_le (tgt := 56) hC dX8_waiter_49 (by decide) (fun h => ?_) (fun h => ?_)
            · replace hw := hw.1 h
              refine r_iconst hC dX8_waiter_56 ?_
              exact J.drop2 (j_X8_waiter_57 hR hC hM ih x1 x2 x3 x4 x5 0 σ hw) ⟨rfl, rfl, rfl, rfl, rfl, rfl, trivial⟩
            · replace hw := hw.2 h
              refine r_iconst hC dX8_waiter_52 ?_
              refine r_goto (tgt := 57) hC dX8_waiter_53 (by decide) ?_
              exact J.drop2 (j_X8_waiter_57 hR hC hM ih x1 x2 x3 x4 x5 1 σ hw) ⟨rfl, rfl, rfl, rfl, rfl, rfl, trivial⟩
def wp_X8_waiter (x1 : Int) (x2 : Int) (x3 : Int) (σ : St) (po : Int → St → Prop) : Prop := ∃ n9, wp_X8_waiter_6 po n9 x1 x2 x3 (-1) 0 σ
set_option maxRecDepth 100000 in
set_option maxHeartbeats 4000000 in
theorem c_X8_waiter (l : Launch) {x1 : Int} {x2 : Int} {x3 : Int} {σ : St} {po : Int → St → Prop} (hw : wp_X8_waiter x1 x2 x3 σ po) : MT l yX8_waiter cX8_waiter 7 (some .int) ({ frames := 0, cells := 0, slots := 0, locals := 0 } : Room) [wr 30 (some 0), wi x1, wi x2, wi x3] σ (PI po) := by
  refine MT_of (by decide) (Nat.le_of_ble_eq_true rfl) (fun K hL hR hC hM => ?_)
  subst hL
  unfold wp_X8_waiter at hw
  show J K 0 [some (wr 30 (some 0)), some (wi x1), some (wi x2), some (wi x3), none, none, none] [] σ 0 0
  refine r_iconst hC dX8_waiter_0 ?_
  refine r_istore (l' := [_, _, _, _, _, _, _]) hC dX8_waiter_1 rfl (by decide) rfl ?_
  refine r_iconst hC dX8_waiter_3 ?_
  refine r_istore (l' := [_, _, _, _, _, _, _]) hC dX8_waiter_4 rfl (by decide) rfl ?_
  obtain ⟨n9, hw⟩ := hw
  exact J.drop2 (j_X8_waiter_6 hR hC hM n9 x1 x2 x3 (-1) 0 σ hw) ⟨rfl, rfl, rfl, rfl, rfl, rfl, trivial⟩
def wp_X8_tried_332 (po : Int → St → Prop) : Nat → Int → Int → Int → Int → St → Prop
  | 0, _, _, _, _, _ => False
  | n + 1, x1, x2, x3, x4, σ => (0 ≤ nm x1 ∧ nm x1 < 16) ∧ (nm (gI σ 110 20 (nm x1).toNat) ≤ nm x4 → (nm x3 = 0 → po 0 σ) ∧
 (nm x3 ≠ 0 → po 1 σ)) ∧
 (nm x4 < nm (gI σ 110 20 (nm x1).toNat) → (0 ≤ nm ((8 * x1) + x4) ∧ nm ((8 * x1) + x4) < 128) ∧ (0 ≤ nm ((8 * x2) + (gI σ 110 21 (nm ((8 * x1) + x4)).toNat)) ∧ nm ((8 * x2) + (gI σ 110 21 (nm ((8 * x1) + x4)).toNat)) < 96) ∧ ∀ s101, s101 = uI σ 110 40 (nm ((8 * x2) + (gI σ 110 21 (nm ((8 * x1) + x4)).toNat))).toNat x1 → wp_X8_tried_332 po n x1 x2 x3 (x4 + 1) s101)
set_option maxRecDepth 100000 in
set_option maxHeartbeats 4000000 in
theorem j_X8_tried_332 {K : JK} (hR : kRm K = ({ frames := 1, cells := 0, slots := 0, locals := 25 } : Room)) (hC : Cx K cX8_tried 7 RX8) {po : Int → St → Prop} (hM : Mx K (some .int) (PI po)) : ∀ (n : Nat) (x1 : Int) (x2 : Int) (x3 : Int) (x4 : Int) (σ : St), wp_X8_tried_332 po n x1 x2 x3 x4 σ → J K 332 [some (wr 30 (some 0)), some (wi x1), some (wi x2), some (wi x3), some (wi x4), none, none] [] σ 0 0 := by
  intro n
  induction n with
  | zero =>
    intro x1 x2 x3 x4 σ hw
    exact False.elim hw
  | succ n ih =>
    intro x1 x2 x3 x4 σ hw
    unfold wp_X8_tried_332 at hw
    refine r_iload hC dX8_tried_332 rfl ?_
    refine r_aload_n hC dX8_tried_334 rfl ?_
    refine gf_X8_66 hC dX8_tried_335 ?_
    refine r_iload_n hC dX8_tried_338 rfl ?_
    refine r_iaload hC rfl (by decide) hw.1 dX8_tried_339 ?_
    replace hw := hw.2
    refine r_icmp_ge (tgt := 372) hC dX8_tried_340 (by decide) (fun h => ?_) (fun h => ?_)
    · replace hw := hw.1 h
      refine r_iload_n hC dX8_tried_372 rfl ?_
      refine r_if_eq (tgt := 380) hC dX8_tried_373 (by decide) (fun h => ?_) (fun h => ?_)
      · replace hw := hw.1 h
        refine r_iconst hC dX8_tried_380 ?_
        exact r_ireturn hC hM ⟨_, rfl, hw⟩ (by rw [hR]; decide) (by rw [hR]; decide) dX8_tried_381
      · replace hw := hw.2 h
        refine r_iconst hC dX8_tried_376 ?_
        refine r_goto (tgt := 381) hC dX8_tried_377 (by decide) ?_
        exact r_ireturn hC hM ⟨_, rfl, hw⟩ (by rw [hR]; decide) (by rw [hR]; decide) dX8_tried_381
    · replace hw := hw.2 h
      refine r_aload_n hC dX8_tried_343 rfl ?_
      refine gf_X8_126 hC dX8_tried_344 ?_
      refine r_bipush hC dX8_tried_347 (by decide) ?_
      refine r_iload_n hC dX8_tried_349 rfl ?_
      refine r_imul hC dX8_tried_350 ?_
      refine r_aload_n hC dX8_tried_351 rfl ?_
      refine gf_X8_69 hC dX8_tried_352 ?_
      refine r_bipush hC dX8_tried_355 (by decide) ?_
      refine r_iload_n hC dX8_tried_357 rfl ?_
      refine r_imul hC dX8_tried_358 ?_
      refine r_iload hC dX8_tried_359 rfl ?_
      refine r_iadd hC dX8_tried_361 ?_
      refine r_iaload hC rfl (by decide) hw.1 dX8_tried_362 ?_
      replace hw := hw.2
      refine r_iadd hC dX8_tried_363 ?_
      refine r_iload_n hC dX8_tried_364 rfl ?_
      refine r_iastore hC rfl (by decide) hw.1 dX8_tried_365 (fun s101 e9 => ?_)
      replace hw := hw.2 s101 e9
      clear e9
      refine r_iinc (l' := [_, _, _, _, _, _, _]) hC dX8_tried_366 rfl rfl (by decide) rfl ?_
      refine r_goto (tgt := 332) hC dX8_tried_369 (by decide) ?_
      exact J.drop2 (ih x1 x2 x3 (x4 + 1) s101 hw) ⟨rfl, rfl, rfl, rfl, rfl, trivial⟩
def wp_X8_tried_279 (po : Int → St → Prop) (X241 : Int → Int → Int → Int → St → Prop) (x1 : Int) (x2 : Int) (x4 : Int) (y0 : Int) (σ : St) : Prop := (0 ≤ nm x4 ∧ nm x4 < 8) ∧ (0 ≤ nm ((8 * x2) + x4) ∧ nm ((8 * x2) + x4) < 96) ∧ ∀ s102, s102 = uI σ 110 39 (nm ((8 * x2) + x4)).toNat (gI σ 110 42 (nm x4).toNat) → (0 ≤ nm x4 ∧ nm x4 < 8) ∧ (0 ≤ nm (((96 * x1) + (8 * x2)) + x4) ∧ nm (((96 * x1) + (8 * x2)) + x4) < 1536) ∧ ∀ s103, s103 = uI s102 110 41 (nm (((96 * x1) + (8 * x2)) + x4)).toNat (gI s102 110 43 (nm x4).toNat) → X241 x1 x2 y0 (x4 + 1) s103
set_option maxRecDepth 100000 in
set_option maxHeartbeats 4000000 in
theorem j_X8_tried_279 {K : JK} (hR : kRm K = ({ frames := 1, cells := 0, slots := 0, locals := 25 } : Room)) (hC : Cx K cX8_tried 7 RX8) {po : Int → St → Prop} (hM : Mx K (some .int) (PI po)) {X241 : Int → Int → Int → Int → St → Prop} (hX241 : ∀ (x1 : Int) (x2 : Int) (x3 : Int) (x4 : Int) (σ : St), X241 x1 x2 x3 x4 σ → J K 241 [some (wr 30 (some 0)), some (wi x1), some (wi x2), some (wi x3), some (wi x4), none, none] [] σ 0 0) : ∀ (x1 : Int) (x2 : Int) (x4 : Int) (y0 : Int) (σ : St), wp_X8_tried_279 po X241 x1 x2 x4 y0 σ → J K 279 [some (wr 30 (some 0)), some (wi x1), some (wi x2), none, some (wi x4), none, none] [wi y0] σ 0 0 := by
  intro x1 x2 x4 y0 σ hw
  unfold wp_X8_tried_279 at hw
  refine r_istore_n (l' := [_, _, _, _, _, _, _]) hC dX8_tried_279 rfl (by decide) rfl ?_
  refine r_aload_n hC dX8_tried_280 rfl ?_
  refine gf_X8_123 hC dX8_tried_281 ?_
  refine r_bipush hC dX8_tried_284 (by decide) ?_
  refine r_iload_n hC dX8_tried_286 rfl ?_
  refine r_imul hC dX8_tried_287 ?_
  refine r_iload hC dX8_tried_288 rfl ?_
  refine r_iadd hC dX8_tried_290 ?_
  refine r_aload_n hC dX8_tried_291 rfl ?_
  refine gf_X8_132 hC dX8_tried_292 ?_
  refine r_iload hC dX8_tried_295 rfl ?_
  refine r_iaload hC rfl (by decide) hw.1 dX8_tried_297 ?_
  replace hw := hw.2
  refine r_iastore hC rfl (by decide) hw.1 dX8_tried_298 (fun s102 e9 => ?_)
  replace hw := hw.2 s102 e9
  clear e9
  refine r_aload_n hC dX8_tried_299 rfl ?_
  refine gf_X8_129 hC dX8_tried_300 ?_
  refine r_bipush hC dX8_tried_303 (by decide) ?_
  refine r_iload_n hC dX8_tried_305 rfl ?_
  refine r_imul hC dX8_tried_306 ?_
  refine r_bipush hC dX8_tried_307 (by decide) ?_
  refine r_iload_n hC dX8_tried_309 rfl ?_
  refine r_imul hC dX8_tried_310 ?_
  refine r_iadd hC dX8_tried_311 ?_
  refine r_iload hC dX8_tried_312 rfl ?_
  refine r_iadd hC dX8_tried_314 ?_
  refine r_aload_n hC dX8_tried_315 rfl ?_
  refine gf_X8_135 hC dX8_tried_316 ?_
  refine r_iload hC dX8_tried_319 rfl ?_
  refine r_iaload hC rfl (by decide) hw.1 dX8_tried_321 ?_
  replace hw := hw.2
  refine r_iastore hC rfl (by decide) hw.1 dX8_tried_322 (fun s103 e9 => ?_)
  replace hw := hw.2 s103 e9
  clear e9
  refine r_iinc (l' := [_, _, _, _, _, _, _]) hC dX8_tried_323 rfl rfl (by decide) rfl ?_
  refine r_goto (tgt := 241) hC dX8_tried_326 (by decide) ?_
  exact J.drop2 (hX241 x1 x2 y0 (x4 + 1) s103 hw) ⟨rfl, rfl, rfl, rfl, rfl, trivial⟩
def wp_X8_tried_241 (po : Int → St → Prop) : Nat → Int → Int → Int → Int → St → Prop
  | 0, _, _, _, _, _ => False
  | n + 1, x1, x2, x3, x4, σ => (nm 8 ≤ nm x4 → ∃ n9, wp_X8_tried_332 po n9 x1 x2 x3 0 σ) ∧
 (nm x4 < nm 8 → (nm x3 ≠ 0 → wp_X8_tried_279 po (fun x1 x2 x3 x4 s9 => wp_X8_tried_241 po n x1 x2 x3 x4 s9) x1 x2 x4 1 σ) ∧
 (nm x3 = 0 → (0 ≤ nm x4 ∧ nm x4 < 8) ∧ (0 ≤ nm ((8 * x2) + x4) ∧ nm ((8 * x2) + x4) < 96) ∧ (nm (gI σ 110 42 (nm x4).toNat) = nm (gI σ 110 39 (nm ((8 * x2) + x4)).toNat) → wp_X8_tried_279 po (fun x1 x2 x3 x4 s9 => wp_X8_tried_241 po n x1 x2 x3 x4 s9) x1 x2 x4 0 σ) ∧
 (nm (gI σ 110 42 (nm x4).toNat) ≠ nm (gI σ 110 39 (nm ((8 * x2) + x4)).toNat) → wp_X8_tried_279 po (fun x1 x2 x3 x4 s9 => wp_X8_tried_241 po n x1 x2 x3 x4 s9) x1 x2 x4 1 σ)))
set_option maxRecDepth 100000 in
set_option maxHeartbeats 4000000 in
theorem j_X8_tried_241 {K : JK} (hR : kRm K = ({ frames := 1, cells := 0, slots := 0, locals := 25 } : Room)) (hC : Cx K cX8_tried 7 RX8) {po : Int → St → Prop} (hM : Mx K (some .int) (PI po)) : ∀ (n : Nat) (x1 : Int) (x2 : Int) (x3 : Int) (x4 : Int) (σ : St), wp_X8_tried_241 po n x1 x2 x3 x4 σ → J K 241 [some (wr 30 (some 0)), some (wi x1), some (wi x2), some (wi x3), some (wi x4), none, none] [] σ 0 0 := by
  intro n
  induction n with
  | zero =>
    intro x1 x2 x3 x4 σ hw
    exact False.elim hw
  | succ n ih =>
    intro x1 x2 x3 x4 σ hw
    unfold wp_X8_tried_241 at hw
    refine r_iload hC dX8_tried_241 rfl ?_
    refine r_bipush hC dX8_tried_243 (by decide) ?_
    refine r_icmp_ge (tgt := 329) hC dX8_tried_245 (by decide) (fun h => ?_) (fun h => ?_)
    · replace hw := hw.1 h
      refine r_iconst hC dX8_tried_329 ?_
      refine r_istore (l' := [_, _, _, _, _, _, _]) hC dX8_tried_330 rfl (by decide) rfl ?_
      obtain ⟨n9, hw⟩ := hw
      exact J.drop2 (j_X8_tried_332 hR hC hM n9 x1 x2 x3 0 σ hw) ⟨rfl, rfl, rfl, rfl, rfl, trivial⟩
    · replace hw := hw.2 h
      refine r_iload_n hC dX8_tried_248 rfl ?_
      refine r_if_ne (tgt := 274) hC dX8_tried_249 (by decide) (fun h => ?_) (fun h => ?_)
      · replace hw := hw.1 h
        refine r_iconst hC dX8_tried_274 ?_
        refine r_goto (tgt := 279) hC dX8_tried_275 (by decide) ?_
        exact J.drop2 (j_X8_tried_279 hR hC hM ih x1 x2 x4 1 σ hw) ⟨rfl, rfl, rfl, rfl, trivial⟩
      · replace hw := hw.2 h
        refine r_aload_n hC dX8_tried_252 rfl ?_
        refine gf_X8_132 hC dX8_tried_253 ?_
        refine r_iload hC dX8_tried_256 rfl ?_
        refine r_iaload hC rfl (by decide) hw.1 dX8_tried_258 ?_
        replace hw := hw.2
        refine r_aload_n hC dX8_tried_259 rfl ?_
        refine gf_X8_123 hC dX8_tried_260 ?_
        refine r_bipush hC dX8_tried_263 (by decide) ?_
        refine r_iload_n hC dX8_tried_265 rfl ?_
        refine r_imul hC dX8_tried_266 ?_
        refine r_iload hC dX8_tried_267 rfl ?_
        refine r_iadd hC dX8_tried_269 ?_
        refine r_iaload hC rfl (by decide) hw.1 dX8_tried_270 ?_
        replace hw := hw.2
        refine r_icmp_eq (tgt := 278) hC dX8_tried_271 (by decide) (fun h => ?_) (fun h => ?_)
        · replace hw := hw.1 h
          refine r_iconst hC dX8_tried_278 ?_
          exact J.drop2 (j_X8_tried_279 hR hC hM ih x1 x2 x4 0 σ hw) ⟨rfl, rfl, rfl, rfl, trivial⟩
        · replace hw := hw.2 h
          refine r_iconst hC dX8_tried_274 ?_
          refine r_goto (tgt := 279) hC dX8_tried_275 (by decide) ?_
          exact J.drop2 (j_X8_tried_279 hR hC hM ih x1 x2 x4 1 σ hw) ⟨rfl, rfl, rfl, rfl, trivial⟩
def wp_X8_tried_137 (po : Int → St → Prop) (X55 : Int → Int → Int → St → Prop) (x1 : Int) (x2 : Int) (x3 : Int) (x4 : Int) (x5 : Int) (y0 : Int) (σ : St) : Prop := (nm y0 = 0 → (0 ≤ nm x4 ∧ nm x4 < 8) ∧ (0 ≤ nm x4 ∧ nm x4 < 8) ∧ ∀ s104, s104 = uI σ 110 42 (nm x4).toNat ((gI σ 110 42 (nm x4).toNat) + x5) → (0 ≤ nm x4 ∧ nm x4 < 8) ∧ (nm (gI s104 110 42 (nm x4).toNat) ≤ nm 32767 → (0 ≤ nm ((8 * x1) + x3) ∧ nm ((8 * x1) + x3) < 128) ∧ (nm (zand (gI s104 110 23 (nm ((8 * x1) + x3)).toNat) 2) = 0 → X55 x1 x2 (x3 + 1) s104) ∧
 (nm (zand (gI s104 110 23 (nm ((8 * x1) + x3)).toNat) 2) ≠ 0 → (0 ≤ nm x4 ∧ nm x4 < 8) ∧ (0 ≤ nm x4 ∧ nm x4 < 8) ∧ ∀ s105, s105 = uI s104 110 43 (nm x4).toNat ((gI s104 110 43 (nm x4).toNat) - x5) → (0 ≤ nm x4 ∧ nm x4 < 8) ∧ wp_X8_in (nm (gI s105 110 43 (nm x4).toNat)) (-32767) 32767 s105 (fun r101 s106 => (nm r101 ≠ 0 → X55 x1 x2 (x3 + 1) s106) ∧
 (nm r101 = 0 → po 3 s106)))) ∧
 (nm 32767 < nm (gI s104 110 42 (nm x4).toNat) → po 3 s104)) ∧
 (nm y0 ≠ 0 → (0 ≤ nm x1 ∧ nm x1 < 16) ∧ ∀ s107, s107 = uI σ 110 14 (nm x1).toNat x3 → po 2 s107)
set_option maxRecDepth 100000 in
set_option maxHeartbeats 4000000 in
theorem j_X8_tried_137 {K : JK} (hR : kRm K = ({ frames := 1, cells := 0, slots := 0, locals := 25 } : Room)) (hC : Cx K cX8_tried 7 RX8) {po : Int → St → Prop} (hM : Mx K (some .int) (PI po)) {X55 : Int → Int → Int → St → Prop} (hX55 : ∀ (x1 : Int) (x2 : Int) (x3 : Int) (σ : St), X55 x1 x2 x3 σ → J K 55 [some (wr 30 (some 0)), some (wi x1), some (wi x2), some (wi x3), none, none, none] [] σ 0 0) : ∀ (x1 : Int) (x2 : Int) (x3 : Int) (x4 : Int) (x5 : Int) (y0 : Int) (σ : St), wp_X8_tried_137 po X55 x1 x2 x3 x4 x5 y0 σ → J K 137 [some (wr 30 (some 0)), some (wi x1), some (wi x2), some (wi x3), some (wi x4), some (wi x5), none] [wi y0] σ 0 0 := by
  intro x1 x2 x3 x4 x5 y0 σ hw
  unfold wp_X8_tried_137 at hw
  refine r_istore (l' := [_, _, _, _, _, _, _]) hC dX8_tried_137 rfl (by decide) rfl ?_
  refine r_iload hC dX8_tried_139 rfl ?_
  refine r_if_eq (tgt := 153) hC dX8_tried_141 (by decide) (fun h => ?_) (fun h => ?_)
  · replace hw := hw.1 h
    refine r_aload_n hC dX8_tried_153 rfl ?_
    refine gf_X8_132 hC dX8_tried_154 ?_
    refine r_iload hC dX8_tried_157 rfl ?_
    refine r_dup2 hC dX8_tried_159 rfl rfl ?_
    refine r_iaload hC rfl (by decide) hw.1 dX8_tried_160 ?_
    replace hw := hw.2
    refine r_iload hC dX8_tried_161 rfl ?_
    refine r_iadd hC dX8_tried_163 ?_
    refine r_iastore hC rfl (by decide) hw.1 dX8_tried_164 (fun s104 e9 => ?_)
    replace hw := hw.2 s104 e9
    clear e9
    refine r_aload_n hC dX8_tried_165 rfl ?_
    refine gf_X8_132 hC dX8_tried_166 ?_
    refine r_iload hC dX8_tried_169 rfl ?_
    refine r_iaload hC rfl (by decide) hw.1 dX8_tried_171 ?_
    replace hw := hw.2
    refine r_sipush hC dX8_tried_172 (by decide) ?_
    refine r_icmp_le (tgt := 180) hC dX8_tried_175 (by decide) (fun h => ?_) (fun h => ?_)
    · replace hw := hw.1 h
      refine r_aload_n hC dX8_tried_180 rfl ?_
      refine gf_X8_75 hC dX8_tried_181 ?_
      refine r_bipush hC dX8_tried_184 (by decide) ?_
      refine r_iload_n hC dX8_tried_186 rfl ?_
      refine r_imul hC dX8_tried_187 ?_
      refine r_iload_n hC dX8_tried_188 rfl ?_
      refine r_iadd hC dX8_tried_189 ?_
      refine r_iaload hC rfl (by decide) hw.1 dX8_tried_190 ?_
      replace hw := hw.2
      refine r_iconst hC dX8_tried_191 ?_
      refine r_iand hC dX8_tried_192 ?_
      refine r_if_eq (tgt := 230) hC dX8_tried_193 (by decide) (fun h => ?_) (fun h => ?_)
      · replace hw := hw.1 h
        refine r_iinc (l' := [_, _, _, _, _, _, _]) hC dX8_tried_230 rfl rfl (by decide) rfl ?_
        refine r_goto (tgt := 55) hC dX8_tried_233 (by decide) ?_
        exact J.drop2 (hX55 x1 x2 (x3 + 1) s104 hw) ⟨rfl, rfl, rfl, rfl, trivial⟩
      · replace hw := hw.2 h
        refine r_aload_n hC dX8_tried_196 rfl ?_
        refine gf_X8_135 hC dX8_tried_197 ?_
        refine r_iload hC dX8_tried_200 rfl ?_
        refine r_dup2 hC dX8_tried_202 rfl rfl ?_
        refine r_iaload hC rfl (by decide) hw.1 dX8_tried_203 ?_
        replace hw := hw.2
        refine r_iload hC dX8_tried_204 rfl ?_
        refine r_isub hC dX8_tried_206 ?_
        refine r_iastore hC rfl (by decide) hw.1 dX8_tried_207 (fun s105 e9 => ?_)
        replace hw := hw.2 s105 e9
        clear e9
        refine r_aload_n hC dX8_tried_208 rfl ?_
        refine gf_X8_135 hC dX8_tried_209 ?_
        refine r_iload hC dX8_tried_212 rfl ?_
        refine r_iaload hC rfl (by decide) hw.1 dX8_tried_214 ?_
        replace hw := hw.2
        refine r_i2l hC dX8_tried_215 ?_
        refine r_ldc2 hC (-32767) (wg 954 (by decide +kernel) (by decide +kernel)) rfl dX8_tried_216 ?_
        refine r_ldc2 hC 32767 (wg 955 (by decide +kernel) (by decide +kernel)) rfl dX8_tried_219 ?_
        refine cl_X8_142 hC (c_X8_in (kL K) hw) (by rw [hR]; decide) (Nat.le_of_ble_eq_true rfl) dX8_tried_222 (fun r101 s106 hq => ?_)
        clear hw
        have hw := hq
        clear hq
        refine r_if_ne (tgt := 230) hC dX8_tried_225 (by decide) (fun h => ?_) (fun h => ?_)
        · replace hw := hw.1 h
          refine r_iinc (l' := [_, _, _, _, _, _, _]) hC dX8_tried_230 rfl rfl (by decide) rfl ?_
          refine r_goto (tgt := 55) hC dX8_tried_233 (by decide) ?_
          exact J.drop2 (hX55 x1 x2 (x3 + 1) s106 hw) ⟨rfl, rfl, rfl, rfl, trivial⟩
        · replace hw := hw.2 h
          refine r_iconst hC dX8_tried_228 ?_
          exact r_ireturn hC hM ⟨_, rfl, hw⟩ (by rw [hR]; decide) (by rw [hR]; decide) dX8_tried_229
    · replace hw := hw.2 h
      refine r_iconst hC dX8_tried_178 ?_
      exact r_ireturn hC hM ⟨_, rfl, hw⟩ (by rw [hR]; decide) (by rw [hR]; decide) dX8_tried_179
  · replace hw := hw.2 h
    refine r_aload_n hC dX8_tried_144 rfl ?_
    refine gf_X8_51 hC dX8_tried_145 ?_
    refine r_iload_n hC dX8_tried_148 rfl ?_
    refine r_iload_n hC dX8_tried_149 rfl ?_
    refine r_iastore hC rfl (by decide) hw.1 dX8_tried_150 (fun s107 e9 => ?_)
    replace hw := hw.2 s107 e9
    clear e9
    refine r_iconst hC dX8_tried_151 ?_
    exact r_ireturn hC hM ⟨_, rfl, hw⟩ (by rw [hR]; decide) (by rw [hR]; decide) dX8_tried_152
def wp_X8_tried_55 (po : Int → St → Prop) : Nat → Int → Int → Int → St → Prop
  | 0, _, _, _, _ => False
  | n + 1, x1, x2, x3, σ => (0 ≤ nm x1 ∧ nm x1 < 16) ∧ (nm (gI σ 110 20 (nm x1).toNat) ≤ nm x3 → ∃ n9, wp_X8_tried_241 po n9 x1 x2 0 0 σ) ∧
 (nm x3 < nm (gI σ 110 20 (nm x1).toNat) → (0 ≤ nm ((8 * x1) + x3) ∧ nm ((8 * x1) + x3) < 128) ∧ (0 ≤ nm ((8 * x1) + x3) ∧ nm ((8 * x1) + x3) < 128) ∧ (nm (gI σ 110 22 (nm ((8 * x1) + x3)).toNat) ≠ 0 → (0 ≤ nm (gI σ 110 22 (nm ((8 * x1) + x3)).toNat) → wp_X8_tried_137 po (fun x1 x2 x3 s9 => wp_X8_tried_55 po n x1 x2 x3 s9) x1 x2 x3 (gI σ 110 21 (nm ((8 * x1) + x3)).toNat) (gI σ 110 22 (nm ((8 * x1) + x3)).toNat) 0 σ) ∧
 (nm (gI σ 110 22 (nm ((8 * x1) + x3)).toNat) < 0 → (0 ≤ nm (gI σ 110 21 (nm ((8 * x1) + x3)).toNat) ∧ nm (gI σ 110 21 (nm ((8 * x1) + x3)).toNat) < 8) ∧ (0 ≤ nm ((gI σ 110 42 (nm (gI σ 110 21 (nm ((8 * x1) + x3)).toNat)).toNat) + (gI σ 110 22 (nm ((8 * x1) + x3)).toNat)) → wp_X8_tried_137 po (fun x1 x2 x3 s9 => wp_X8_tried_55 po n x1 x2 x3 s9) x1 x2 x3 (gI σ 110 21 (nm ((8 * x1) + x3)).toNat) (gI σ 110 22 (nm ((8 * x1) + x3)).toNat) 0 σ) ∧
 (nm ((gI σ 110 42 (nm (gI σ 110 21 (nm ((8 * x1) + x3)).toNat)).toNat) + (gI σ 110 22 (nm ((8 * x1) + x3)).toNat)) < 0 → wp_X8_tried_137 po (fun x1 x2 x3 s9 => wp_X8_tried_55 po n x1 x2 x3 s9) x1 x2 x3 (gI σ 110 21 (nm ((8 * x1) + x3)).toNat) (gI σ 110 22 (nm ((8 * x1) + x3)).toNat) 1 σ))) ∧
 (nm (gI σ 110 22 (nm ((8 * x1) + x3)).toNat) = 0 → (0 ≤ nm (gI σ 110 21 (nm ((8 * x1) + x3)).toNat) ∧ nm (gI σ 110 21 (nm ((8 * x1) + x3)).toNat) < 8) ∧ (nm (gI σ 110 42 (nm (gI σ 110 21 (nm ((8 * x1) + x3)).toNat)).toNat) = 0 → wp_X8_tried_137 po (fun x1 x2 x3 s9 => wp_X8_tried_55 po n x1 x2 x3 s9) x1 x2 x3 (gI σ 110 21 (nm ((8 * x1) + x3)).toNat) (gI σ 110 22 (nm ((8 * x1) + x3)).toNat) 0 σ) ∧
 (nm (gI σ 110 42 (nm (gI σ 110 21 (nm ((8 * x1) + x3)).toNat)).toNat) ≠ 0 → wp_X8_tried_137 po (fun x1 x2 x3 s9 => wp_X8_tried_55 po n x1 x2 x3 s9) x1 x2 x3 (gI σ 110 21 (nm ((8 * x1) + x3)).toNat) (gI σ 110 22 (nm ((8 * x1) + x3)).toNat) 1 σ)))
set_option maxRecDepth 100000 in
set_option maxHeartbeats 4000000 in
theorem j_X8_tried_55 {K : JK} (hR : kRm K = ({ frames := 1, cells := 0, slots := 0, locals := 25 } : Room)) (hC : Cx K cX8_tried 7 RX8) {po : Int → St → Prop} (hM : Mx K (some .int) (PI po)) : ∀ (n : Nat) (x1 : Int) (x2 : Int) (x3 : Int) (σ : St), wp_X8_tried_55 po n x1 x2 x3 σ → J K 55 [some (wr 30 (some 0)), some (wi x1), some (wi x2), some (wi x3), none, none, none] [] σ 0 0 := by
  intro n
  induction n with
  | zero =>
    intro x1 x2 x3 σ hw
    exact False.elim hw
  | succ n ih =>
    intro x1 x2 x3 σ hw
    unfold wp_X8_tried_55 at hw
    refine r_iload_n hC dX8_tried_55 rfl ?_
    refine r_aload_n hC dX8_tried_56 rfl ?_
    refine gf_X8_66 hC dX8_tried_57 ?_
    refine r_iload_n hC dX8_tried_60 rfl ?_
    refine r_iaload hC rfl (by decide) hw.1 dX8_tried_61 ?_
    replace hw := hw.2
    refine r_icmp_ge (tgt := 236) hC dX8_tried_62 (by decide) (fun h => ?_) (fun h => ?_)
    · replace hw := hw.1 h
      refine r_iconst hC dX8_tried_236 ?_
      refine r_istore_n (l' := [_, _, _, _, _, _, _]) hC dX8_tried_237 rfl (by decide) rfl ?_
      refine r_iconst hC dX8_tried_238 ?_
      refine r_istore (l' := [_, _, _, _, _, _, _]) hC dX8_tried_239 rfl (by decide) rfl ?_
      obtain ⟨n9, hw⟩ := hw
      exact J.drop2 (j_X8_tried_241 hR hC hM n9 x1 x2 0 0 σ hw) ⟨rfl, rfl, rfl, rfl, rfl, trivial⟩
    · replace hw := hw.2 h
      refine r_aload_n hC dX8_tried_65 rfl ?_
      refine gf_X8_69 hC dX8_tried_66 ?_
      refine r_bipush hC dX8_tried_69 (by decide) ?_
      refine r_iload_n hC dX8_tried_71 rfl ?_
      refine r_imul hC dX8_tried_72 ?_
      refine r_iload_n hC dX8_tried_73 rfl ?_
      refine r_iadd hC dX8_tried_74 ?_
      refine r_iaload hC rfl (by decide) hw.1 dX8_tried_75 ?_
      replace hw := hw.2
      refine r_istore (l' := [_, _, _, _, _, _, _]) hC dX8_tried_76 rfl (by decide) rfl ?_
      refine r_aload_n hC dX8_tried_78 rfl ?_
      refine gf_X8_72 hC dX8_tried_79 ?_
      refine r_bipush hC dX8_tried_82 (by decide) ?_
      refine r_iload_n hC dX8_tried_84 rfl ?_
      refine r_imul hC dX8_tried_85 ?_
      refine r_iload_n hC dX8_tried_86 rfl ?_
      refine r_iadd hC dX8_tried_87 ?_
      refine r_iaload hC rfl (by decide) hw.1 dX8_tried_88 ?_
      replace hw := hw.2
      refine r_istore (l' := [_, _, _, _, _, _, _]) hC dX8_tried_89 rfl (by decide) rfl ?_
      refine r_iload hC dX8_tried_91 rfl ?_
      refine r_if_ne (tgt := 114) hC dX8_tried_93 (by decide) (fun h => ?_) (fun h => ?_)
      · replace hw := hw.1 h
        refine r_iload hC dX8_tried_114 rfl ?_
        refine r_if_ge (tgt := 136) hC dX8_tried_116 (by decide) (fun h => ?_) (fun h => ?_)
        · replace hw := hw.1 h
          refine r_iconst hC dX8_tried_136 ?_
          exact J.drop2 (j_X8_tried_137 hR hC hM ih x1 x2 x3 (gI σ 110 21 (nm ((8 * x1) + x3)).toNat) (gI σ 110 22 (nm ((8 * x1) + x3)).toNat) 0 σ hw) ⟨rfl, rfl, rfl, rfl, rfl, rfl, trivial⟩
        · replace hw := hw.2 h
          refine r_aload_n hC dX8_tried_119 rfl ?_
          refine gf_X8_132 hC dX8_tried_120 ?_
          refine r_iload hC dX8_tried_123 rfl ?_
          refine r_iaload hC rfl (by decide) hw.1 dX8_tried_125 ?_
          replace hw := hw.2
          refine r_iload hC dX8_tried_126 rfl ?_
          refine r_iadd hC dX8_tried_128 ?_
          refine r_if_ge (tgt := 136) hC dX8_tried_129 (by decide) (fun h => ?_) (fun h => ?_)
          · replace hw := hw.1 h
            refine r_iconst hC dX8_tried_136 ?_
            exact J.drop2 (j_X8_tried_137 hR hC hM ih x1 x2 x3 (gI σ 110 21 (nm ((8 * x1) + x3)).toNat) (gI σ 110 22 (nm ((8 * x1) + x3)).toNat) 0 σ hw) ⟨rfl, rfl, rfl, rfl, rfl, rfl, trivial⟩
          · replace hw := hw.2 h
            refine r_iconst hC dX8_tried_132 ?_
            refine r_goto (tgt := 137) hC dX8_tried_133 (by decide) ?_
            exact J.drop2 (j_X8_tried_137 hR hC hM ih x1 x2 x3 (gI σ 110 21 (nm ((8 * x1) + x3)).toNat) (gI σ 110 22 (nm ((8 * x1) + x3)).toNat) 1 σ hw) ⟨rfl, rfl, rfl, rfl, rfl, rfl, trivial⟩
      · replace hw := hw.2 h
        refine r_aload_n hC dX8_tried_96 rfl ?_
        refine gf_X8_132 hC dX8_tried_97 ?_
        refine r_iload hC dX8_tried_100 rfl ?_
        refine r_iaload hC rfl (by decide) hw.1 dX8_tried_102 ?_
        replace hw := hw.2
        refine r_if_eq (tgt := 110) hC dX8_tried_103 (by decide) (fun h => ?_) (fun h => ?_)
        · replace hw := hw.1 h
          refine r_iconst hC dX8_tried_110 ?_
          refine r_goto (tgt := 137) hC dX8_tried_111 (by decide) ?_
          exact J.drop2 (j_X8_tried_137 hR hC hM ih x1 x2 x3 (gI σ 110 21 (nm ((8 * x1) + x3)).toNat) (gI σ 110 22 (nm ((8 * x1) + x3)).toNat) 0 σ hw) ⟨rfl, rfl, rfl, rfl, rfl, rfl, trivial⟩
        · replace hw := hw.2 h
          refine r_iconst hC dX8_tried_106 ?_
          refine r_goto (tgt := 137) hC dX8_tried_107 (by decide) ?_
          exact J.drop2 (j_X8_tried_137 hR hC hM ih x1 x2 x3 (gI σ 110 21 (nm ((8 * x1) + x3)).toNat) (gI σ 110 22 (nm ((8 * x1) + x3)).toNat) 1 σ hw) ⟨rfl, rfl, rfl, rfl, rfl, rfl, trivial⟩
def wp_X8_tried_2 (po : Int → St → Prop) : Nat → Int → Int → Int → St → Prop
  | 0, _, _, _, _ => False
  | n + 1, x1, x2, x3, σ => (nm 8 ≤ nm x3 → ∃ n9, wp_X8_tried_55 po n9 x1 x2 0 σ) ∧
 (nm x3 < nm 8 → (0 ≤ nm ((8 * x2) + x3) ∧ nm ((8 * x2) + x3) < 96) ∧ (0 ≤ nm x3 ∧ nm x3 < 8) ∧ ∀ s108, s108 = uI σ 110 42 (nm x3).toNat (gI σ 110 39 (nm ((8 * x2) + x3)).toNat) → (0 ≤ nm (((96 * x1) + (8 * x2)) + x3) ∧ nm (((96 * x1) + (8 * x2)) + x3) < 1536) ∧ (0 ≤ nm x3 ∧ nm x3 < 8) ∧ ∀ s109, s109 = uI s108 110 43 (nm x3).toNat (gI s108 110 41 (nm (((96 * x1) + (8 * x2)) + x3)).toNat) → wp_X8_tried_2 po n x1 x2 (x3 + 1) s109)
set_option maxRecDepth 100000 in
set_option maxHeartbeats 4000000 in
theorem j_X8_tried_2 {K : JK} (hR : kRm K = ({ frames := 1, cells := 0, slots := 0, locals := 25 } : Room)) (hC : Cx K cX8_tried 7 RX8) {po : Int → St → Prop} (hM : Mx K (some .int) (PI po)) : ∀ (n : Nat) (x1 : Int) (x2 : Int) (x3 : Int) (σ : St), wp_X8_tried_2 po n x1 x2 x3 σ → J K 2 [some (wr 30 (some 0)), some (wi x1), some (wi x2), some (wi x3), none, none, none] [] σ 0 0 := by
  intro n
  induction n with
  | zero =>
    intro x1 x2 x3 σ hw
    exact False.elim hw
  | succ n ih =>
    intro x1 x2 x3 σ hw
    unfold wp_X8_tried_2 at hw
    refine r_iload_n hC dX8_tried_2 rfl ?_
    refine r_bipush hC dX8_tried_3 (by decide) ?_
    refine r_icmp_ge (tgt := 53) hC dX8_tried_5 (by decide) (fun h => ?_) (fun h => ?_)
    · replace hw := hw.1 h
      refine r_iconst hC dX8_tried_53 ?_
      refine r_istore_n (l' := [_, _, _, _, _, _, _]) hC dX8_tried_54 rfl (by decide) rfl ?_
      obtain ⟨n9, hw⟩ := hw
      exact J.drop2 (j_X8_tried_55 hR hC hM n9 x1 x2 0 σ hw) ⟨rfl, rfl, rfl, rfl, trivial⟩
    · replace hw := hw.2 h
      refine r_aload_n hC dX8_tried_8 rfl ?_
      refine gf_X8_132 hC dX8_tried_9 ?_
      refine r_iload_n hC dX8_tried_12 rfl ?_
      refine r_aload_n hC dX8_tried_13 rfl ?_
      refine gf_X8_123 hC dX8_tried_14 ?_
      refine r_bipush hC dX8_tried_17 (by decide) ?_
      refine r_iload_n hC dX8_tried_19 rfl ?_
      refine r_imul hC dX8_tried_20 ?_
      refine r_iload_n hC dX8_tried_21 rfl ?_
      refine r_iadd hC dX8_tried_22 ?_
      refine r_iaload hC rfl (by decide) hw.1 dX8_tried_23 ?_
      replace hw := hw.2
      refine r_iastore hC rfl (by decide) hw.1 dX8_tried_24 (fun s108 e9 => ?_)
      replace hw := hw.2 s108 e9
      clear e9
      refine r_aload_n hC dX8_tried_25 rfl ?_
      refine gf_X8_135 hC dX8_tried_26 ?_
      refine r_iload_n hC dX8_tried_29 rfl ?_
      refine r_aload_n hC dX8_tried_30 rfl ?_
      refine gf_X8_129 hC dX8_tried_31 ?_
      refine r_bipush hC dX8_tried_34 (by decide) ?_
      refine r_iload_n hC dX8_tried_36 rfl ?_
      refine r_imul hC dX8_tried_37 ?_
      refine r_bipush hC dX8_tried_38 (by decide) ?_
      refine r_iload_n hC dX8_tried_40 rfl ?_
      refine r_imul hC dX8_tried_41 ?_
      refine r_iadd hC dX8_tried_42 ?_
      refine r_iload_n hC dX8_tried_43 rfl ?_
      refine r_iadd hC dX8_tried_44 ?_
      refine r_iaload hC rfl (by decide) hw.1 dX8_tried_45 ?_
      replace hw := hw.2
      refine r_iastore hC rfl (by decide) hw.1 dX8_tried_46 (fun s109 e9 => ?_)
      replace hw := hw.2 s109 e9
      clear e9
      refine r_iinc (l' := [_, _, _, _, _, _, _]) hC dX8_tried_47 rfl rfl (by decide) rfl ?_
      refine r_goto (tgt := 2) hC dX8_tried_50 (by decide) ?_
      exact J.drop2 (ih x1 x2 (x3 + 1) s109 hw) ⟨rfl, rfl, rfl, rfl, trivial⟩
def wp_X8_tried (x1 : Int) (x2 : Int) (σ : St) (po : Int → St → Prop) : Prop := ∃ n9, wp_X8_tried_2 po n9 x1 x2 0 σ
set_option maxRecDepth 100000 in
set_option maxHeartbeats 4000000 in
theorem c_X8_tried (l : Launch) {x1 : Int} {x2 : Int} {σ : St} {po : Int → St → Prop} (hw : wp_X8_tried x1 x2 σ po) : MT l yX8_tried cX8_tried 7 (some .int) ({ frames := 1, cells := 0, slots := 0, locals := 25 } : Room) [wr 30 (some 0), wi x1, wi x2] σ (PI po) := by
  refine MT_of (by decide) (Nat.le_of_ble_eq_true rfl) (fun K hL hR hC hM => ?_)
  subst hL
  unfold wp_X8_tried at hw
  show J K 0 [some (wr 30 (some 0)), some (wi x1), some (wi x2), none, none, none, none] [] σ 0 0
  refine r_iconst hC dX8_tried_0 ?_
  refine r_istore_n (l' := [_, _, _, _, _, _, _]) hC dX8_tried_1 rfl (by decide) rfl ?_
  obtain ⟨n9, hw⟩ := hw
  exact J.drop2 (j_X8_tried_2 hR hC hM n9 x1 x2 0 σ hw) ⟨rfl, rfl, rfl, rfl, trivial⟩
def wp_X8_serve_51 (po : St → Prop) (X8 : Int → Int → St → Prop) (x1 : Int) (x3 : Int) (x4 : Int) (σ : St) : Prop := (nm x4 ≠ nm 1 → wp_X8_waiter 3 x1 x3 σ (fun r103 s103 => X8 x1 r103 s103)) ∧
 (nm x4 = nm 1 → wp_X8_waiter 3 x1 0 σ (fun r104 s104 => X8 x1 r104 s104))
set_option maxRecDepth 100000 in
set_option maxHeartbeats 4000000 in
theorem j_X8_serve_51 {K : JK} (hR : kRm K = ({ frames := 2, cells := 0, slots := 0, locals := 51 } : Room)) (hC : Cx K cX8_serve 5 RX8) {po : St → Prop} (hM : Mx K none (PV po)) {X8 : Int → Int → St → Prop} (hX8 : ∀ (x1 : Int) (x2 : Int) (σ : St), X8 x1 x2 σ → J K 8 [some (wr 30 (some 0)), some (wi x1), some (wi x2), none, none] [] σ 0 0) : ∀ (x1 : Int) (x3 : Int) (x4 : Int) (σ : St), wp_X8_serve_51 po X8 x1 x3 x4 σ → J K 51 [some (wr 30 (some 0)), some (wi x1), none, some (wi x3), some (wi x4)] [] σ 0 0 := by
  intro x1 x3 x4 σ hw
  unfold wp_X8_serve_51 at hw
  refine r_aload_n hC dX8_serve_51 rfl ?_
  refine r_iconst hC dX8_serve_52 ?_
  refine r_iload_n hC dX8_serve_53 rfl ?_
  refine r_iload hC dX8_serve_54 rfl ?_
  refine r_iconst hC dX8_serve_56 ?_
  refine r_icmp_ne (tgt := 64) hC dX8_serve_57 (by decide) (fun h => ?_) (fun h => ?_)
  · replace hw := hw.1 h
    refine r_iload_n hC dX8_serve_64 rfl ?_
    refine cl_X8_224 hC (c_X8_waiter (kL K) hw) (by rw [hR]; decide) (Nat.le_of_ble_eq_true rfl) dX8_serve_65 (fun r103 s103 hq => ?_)
    clear hw
    have hw := hq
    clear hq
    refine r_istore_n (l' := [_, _, _, _, _]) hC dX8_serve_68 rfl (by decide) rfl ?_
    refine r_goto (tgt := 8) hC dX8_serve_69 (by decide) ?_
    exact J.drop2 (hX8 x1 r103 s103 hw) ⟨rfl, rfl, rfl, trivial⟩
  · replace hw := hw.2 h
    refine r_iconst hC dX8_serve_60 ?_
    refine r_goto (tgt := 65) hC dX8_serve_61 (by decide) ?_
    refine cl_X8_224 hC (c_X8_waiter (kL K) hw) (by rw [hR]; decide) (Nat.le_of_ble_eq_true rfl) dX8_serve_65 (fun r104 s104 hq => ?_)
    clear hw
    have hw := hq
    clear hq
    refine r_istore_n (l' := [_, _, _, _, _]) hC dX8_serve_68 rfl (by decide) rfl ?_
    refine r_goto (tgt := 8) hC dX8_serve_69 (by decide) ?_
    exact J.drop2 (hX8 x1 r104 s104 hw) ⟨rfl, rfl, rfl, trivial⟩
def wp_X8_serve_8 (po : St → Prop) : Nat → Int → Int → St → Prop
  | 0, _, _, _ => False
  | n + 1, x1, x2, σ => (nm x2 = nm (-1) → po σ) ∧
 (nm x2 ≠ nm (-1) → (0 ≤ nm x2 ∧ nm x2 < 16) ∧ wp_X8_tried x2 x1 σ (fun r102 s102 => (nm r102 = nm 2 → wp_X8_serve_51 po (fun x1 x2 s9 => wp_X8_serve_8 po n x1 x2 s9) x1 (gI σ 110 8 (nm x2).toNat) r102 s102) ∧
 (nm r102 ≠ nm 2 → (nm r102 ≠ nm 3 → wp_X8_goesOn x2 0 s102 (fun s105 => wp_X8_serve_51 po (fun x1 x2 s9 => wp_X8_serve_8 po n x1 x2 s9) x1 (gI σ 110 8 (nm x2).toNat) r102 s105)) ∧
 (nm r102 = nm 3 → wp_X8_goesOn x2 (-15) s102 (fun s106 => wp_X8_serve_51 po (fun x1 x2 s9 => wp_X8_serve_8 po n x1 x2 s9) x1 (gI σ 110 8 (nm x2).toNat) r102 s106)))))
set_option maxRecDepth 100000 in
set_option maxHeartbeats 4000000 in
theorem j_X8_serve_8 {K : JK} (hR : kRm K = ({ frames := 2, cells := 0, slots := 0, locals := 51 } : Room)) (hC : Cx K cX8_serve 5 RX8) {po : St → Prop} (hM : Mx K none (PV po)) : ∀ (n : Nat) (x1 : Int) (x2 : Int) (σ : St), wp_X8_serve_8 po n x1 x2 σ → J K 8 [some (wr 30 (some 0)), some (wi x1), some (wi x2), none, none] [] σ 0 0 := by
  intro n
  induction n with
  | zero =>
    intro x1 x2 σ hw
    exact False.elim hw
  | succ n ih =>
    intro x1 x2 σ hw
    unfold wp_X8_serve_8 at hw
    refine r_iload_n hC dX8_serve_8 rfl ?_
    refine r_iconst hC dX8_serve_9 ?_
    refine r_icmp_eq (tgt := 72) hC dX8_serve_10 (by decide) (fun h => ?_) (fun h => ?_)
    · replace hw := hw.1 h
      exact r_vreturn hC hM ⟨rfl, hw⟩ (by rw [hR]; decide) (by rw [hR]; decide) dX8_serve_72
    · replace hw := hw.2 h
      refine r_aload_n hC dX8_serve_13 rfl ?_
      refine gf_X8_33 hC dX8_serve_14 ?_
      refine r_iload_n hC dX8_serve_17 rfl ?_
      refine r_iaload hC rfl (by decide) hw.1 dX8_serve_18 ?_
      replace hw := hw.2
      refine r_istore_n (l' := [_, _, _, _, _]) hC dX8_serve_19 rfl (by decide) rfl ?_
      refine r_aload_n hC dX8_serve_20 rfl ?_
      refine r_iload_n hC dX8_serve_21 rfl ?_
      refine r_iload_n hC dX8_serve_22 rfl ?_
      refine cl_X8_260 hC (c_X8_tried (kL K) hw) (by rw [hR]; decide) (Nat.le_of_ble_eq_true rfl) dX8_serve_23 (fun r102 s102 hq => ?_)
      clear hw
      have hw := hq
      clear hq
      refine r_istore (l' := [_, _, _, _, _]) hC dX8_serve_26 rfl (by decide) rfl ?_
      refine r_iload hC dX8_serve_28 rfl ?_
      refine r_iconst hC dX8_serve_30 ?_
      refine r_icmp_eq (tgt := 51) hC dX8_serve_31 (by decide) (fun h => ?_) (fun h => ?_)
      · replace hw := hw.1 h
        exact J.drop2 (j_X8_serve_51 hR hC hM ih x1 (gI σ 110 8 (nm x2).toNat) r102 s102 hw) ⟨rfl, rfl, rfl, rfl, trivial⟩
      · replace hw := hw.2 h
        refine r_aload_n hC dX8_serve_34 rfl ?_
        refine r_iload_n hC dX8_serve_35 rfl ?_
        refine r_iload hC dX8_serve_36 rfl ?_
        refine r_iconst hC dX8_serve_38 ?_
        refine r_icmp_ne (tgt := 47) hC dX8_serve_39 (by decide) (fun h => ?_) (fun h => ?_)
        · replace hw := hw.1 h
          refine r_iconst hC dX8_serve_47 ?_
          refine cl_X8_156 hC (c_X8_goesOn (kL K) hw) (by rw [hR]; decide) (Nat.le_of_ble_eq_true rfl) dX8_serve_48 (fun s105 hq => ?_)
          clear hw
          have hw := hq
          clear hq
          exact J.drop2 (j_X8_serve_51 hR hC hM ih x1 (gI σ 110 8 (nm x2).toNat) r102 s105 hw) ⟨rfl, rfl, rfl, rfl, trivial⟩
        · replace hw := hw.2 h
          refine r_bipush hC dX8_serve_42 (by decide) ?_
          refine r_goto (tgt := 48) hC dX8_serve_44 (by decide) ?_
          refine cl_X8_156 hC (c_X8_goesOn (kL K) hw) (by rw [hR]; decide) (Nat.le_of_ble_eq_true rfl) dX8_serve_48 (fun s106 hq => ?_)
          clear hw
          have hw := hq
          clear hq
          exact J.drop2 (j_X8_serve_51 hR hC hM ih x1 (gI σ 110 8 (nm x2).toNat) r102 s106 hw) ⟨rfl, rfl, rfl, rfl, trivial⟩
def wp_X8_serve (x1 : Int) (σ : St) (po : St → Prop) : Prop := wp_X8_waiter 3 x1 0 σ (fun r101 s101 => ∃ n9, wp_X8_serve_8 po n9 x1 r101 s101)
set_option maxRecDepth 100000 in
set_option maxHeartbeats 4000000 in
theorem c_X8_serve (l : Launch) {x1 : Int} {σ : St} {po : St → Prop} (hw : wp_X8_serve x1 σ po) : MT l yX8_serve cX8_serve 5 none ({ frames := 2, cells := 0, slots := 0, locals := 51 } : Room) [wr 30 (some 0), wi x1] σ (PV po) := by
  refine MT_of (by decide) (Nat.le_of_ble_eq_true rfl) (fun K hL hR hC hM => ?_)
  subst hL
  unfold wp_X8_serve at hw
  show J K 0 [some (wr 30 (some 0)), some (wi x1), none, none, none] [] σ 0 0
  refine r_aload_n hC dX8_serve_0 rfl ?_
  refine r_iconst hC dX8_serve_1 ?_
  refine r_iload_n hC dX8_serve_2 rfl ?_
  refine r_iconst hC dX8_serve_3 ?_
  refine cl_X8_224 hC (c_X8_waiter (kL K) hw) (by rw [hR]; decide) (Nat.le_of_ble_eq_true rfl) dX8_serve_4 (fun r101 s101 hq => ?_)
  clear hw
  have hw := hq
  clear hq
  refine r_istore_n (l' := [_, _, _, _, _]) hC dX8_serve_7 rfl (by decide) rfl ?_
  obtain ⟨n9, hw⟩ := hw
  exact J.drop2 (j_X8_serve_8 hR hC hM n9 x1 r101 s101 hw) ⟨rfl, rfl, rfl, trivial⟩
def wp_X8_exit_176 (po : Int → St → Prop) (X48 : Int → Int → St → Prop) (X71 : Int → Int → Int → Int → St → Prop) (x1 : Int) (x2 : Int) (x4 : Int) (x6 : Int) (y0 : Int) (σ : St) : Prop := (0 ≤ nm ((8 * x2) + x4) ∧ nm ((8 * x2) + x4) < 96) ∧ ∀ s104, s104 = uI σ 110 39 (nm ((8 * x2) + x4)).toNat x6 → (0 ≤ nm ((8 * x2) + x4) ∧ nm ((8 * x2) + x4) < 96) ∧ ∀ s105, s105 = uI s104 110 40 (nm ((8 * x2) + x4)).toNat x1 → (0 ≤ nm (((96 * x1) + (8 * x2)) + x4) ∧ nm (((96 * x1) + (8 * x2)) + x4) < 1536) ∧ ∀ s106, s106 = uI s105 110 41 (nm (((96 * x1) + (8 * x2)) + x4)).toNat 0 → X71 x1 x2 y0 (x4 + 1) s106
set_option maxRecDepth 100000 in
set_option maxHeartbeats 4000000 in
theorem j_X8_exit_176 {K : JK} (hR : kRm K = ({ frames := 3, cells := 0, slots := 0, locals := 75 } : Room)) (hC : Cx K cX8_exit 7 RX8) {po : Int → St → Prop} (hM : Mx K (some .int) (PI po)) {X48 : Int → Int → St → Prop} {X71 : Int → Int → Int → Int → St → Prop} (hX48 : ∀ (x1 : Int) (x2 : Int) (σ : St), X48 x1 x2 σ → J K 48 [some (wr 30 (some 0)), some (wi x1), some (wi x2), none, none, none, none] [] σ 0 0) (hX71 : ∀ (x1 : Int) (x2 : Int) (x3 : Int) (x4 : Int) (σ : St), X71 x1 x2 x3 x4 σ → J K 71 [some (wr 30 (some 0)), some (wi x1), some (wi x2), some (wi x3), some (wi x4), none, none] [] σ 0 0) : ∀ (x1 : Int) (x2 : Int) (x4 : Int) (x6 : Int) (y0 : Int) (σ : St), wp_X8_exit_176 po X48 X71 x1 x2 x4 x6 y0 σ → J K 176 [some (wr 30 (some 0)), some (wi x1), some (wi x2), none, some (wi x4), none, some (wi x6)] [wi y0] σ 0 0 := by
  intro x1 x2 x4 x6 y0 σ hw
  unfold wp_X8_exit_176 at hw
  refine r_istore_n (l' := [_, _, _, _, _, _, _]) hC dX8_exit_176 rfl (by decide) rfl ?_
  refine r_aload_n hC dX8_exit_177 rfl ?_
  refine gf_X8_123 hC dX8_exit_178 ?_
  refine r_bipush hC dX8_exit_181 (by decide) ?_
  refine r_iload_n hC dX8_exit_183 rfl ?_
  refine r_imul hC dX8_exit_184 ?_
  refine r_iload hC dX8_exit_185 rfl ?_
  refine r_iadd hC dX8_exit_187 ?_
  refine r_iload hC dX8_exit_188 rfl ?_
  refine r_iastore hC rfl (by decide) hw.1 dX8_exit_190 (fun s104 e9 => ?_)
  replace hw := hw.2 s104 e9
  clear e9
  refine r_aload_n hC dX8_exit_191 rfl ?_
  refine gf_X8_126 hC dX8_exit_192 ?_
  refine r_bipush hC dX8_exit_195 (by decide) ?_
  refine r_iload_n hC dX8_exit_197 rfl ?_
  refine r_imul hC dX8_exit_198 ?_
  refine r_iload hC dX8_exit_199 rfl ?_
  refine r_iadd hC dX8_exit_201 ?_
  refine r_iload_n hC dX8_exit_202 rfl ?_
  refine r_iastore hC rfl (by decide) hw.1 dX8_exit_203 (fun s105 e9 => ?_)
  replace hw := hw.2 s105 e9
  clear e9
  refine r_aload_n hC dX8_exit_204 rfl ?_
  refine gf_X8_129 hC dX8_exit_205 ?_
  refine r_bipush hC dX8_exit_208 (by decide) ?_
  refine r_iload_n hC dX8_exit_210 rfl ?_
  refine r_imul hC dX8_exit_211 ?_
  refine r_bipush hC dX8_exit_212 (by decide) ?_
  refine r_iload_n hC dX8_exit_214 rfl ?_
  refine r_imul hC dX8_exit_215 ?_
  refine r_iadd hC dX8_exit_216 ?_
  refine r_iload hC dX8_exit_217 rfl ?_
  refine r_iadd hC dX8_exit_219 ?_
  refine r_iconst hC dX8_exit_220 ?_
  refine r_iastore hC rfl (by decide) hw.1 dX8_exit_221 (fun s106 e9 => ?_)
  replace hw := hw.2 s106 e9
  clear e9
  refine r_iinc (l' := [_, _, _, _, _, _, _]) hC dX8_exit_222 rfl rfl (by decide) rfl ?_
  refine r_goto (tgt := 71) hC dX8_exit_225 (by decide) ?_
  exact J.drop2 (hX71 x1 x2 y0 (x4 + 1) s106 hw) ⟨rfl, rfl, rfl, rfl, rfl, trivial⟩
def wp_X8_exit_148 (po : Int → St → Prop) (X48 : Int → Int → St → Prop) (X71 : Int → Int → Int → Int → St → Prop) (x1 : Int) (x2 : Int) (x3 : Int) (x4 : Int) (y0 : Int) (σ : St) : Prop := (nm x3 ≠ 0 → wp_X8_exit_176 po X48 X71 x1 x2 x4 y0 1 σ) ∧
 (nm x3 = 0 → (0 ≤ nm ((8 * x2) + x4) ∧ nm ((8 * x2) + x4) < 96) ∧ (nm y0 = nm (gI σ 110 39 (nm ((8 * x2) + x4)).toNat) → wp_X8_exit_176 po X48 X71 x1 x2 x4 y0 0 σ) ∧
 (nm y0 ≠ nm (gI σ 110 39 (nm ((8 * x2) + x4)).toNat) → wp_X8_exit_176 po X48 X71 x1 x2 x4 y0 1 σ))
set_option maxRecDepth 100000 in
set_option maxHeartbeats 4000000 in
theorem j_X8_exit_148 {K : JK} (hR : kRm K = ({ frames := 3, cells := 0, slots := 0, locals := 75 } : Room)) (hC : Cx K cX8_exit 7 RX8) {po : Int → St → Prop} (hM : Mx K (some .int) (PI po)) {X48 : Int → Int → St → Prop} {X71 : Int → Int → Int → Int → St → Prop} (hX48 : ∀ (x1 : Int) (x2 : Int) (σ : St), X48 x1 x2 σ → J K 48 [some (wr 30 (some 0)), some (wi x1), some (wi x2), none, none, none, none] [] σ 0 0) (hX71 : ∀ (x1 : Int) (x2 : Int) (x3 : Int) (x4 : Int) (σ : St), X71 x1 x2 x3 x4 σ → J K 71 [some (wr 30 (some 0)), some (wi x1), some (wi x2), some (wi x3), some (wi x4), none, none] [] σ 0 0) : ∀ (x1 : Int) (x2 : Int) (x3 : Int) (x4 : Int) (y0 : Int) (σ : St), wp_X8_exit_148 po X48 X71 x1 x2 x3 x4 y0 σ → J K 148 [some (wr 30 (some 0)), some (wi x1), some (wi x2), some (wi x3), some (wi x4), none, none] [wi y0] σ 0 0 := by
  intro x1 x2 x3 x4 y0 σ hw
  unfold wp_X8_exit_148 at hw
  refine r_istore (l' := [_, _, _, _, _, _, _]) hC dX8_exit_148 rfl (by decide) rfl ?_
  refine r_iload_n hC dX8_exit_150 rfl ?_
  refine r_if_ne (tgt := 171) hC dX8_exit_151 (by decide) (fun h => ?_) (fun h => ?_)
  · replace hw := hw.1 h
    refine r_iconst hC dX8_exit_171 ?_
    refine r_goto (tgt := 176) hC dX8_exit_172 (by decide) ?_
    exact J.drop2 (j_X8_exit_176 hR hC hM hX48 hX71 x1 x2 x4 y0 1 σ hw) ⟨rfl, rfl, rfl, rfl, rfl, trivial⟩
  · replace hw := hw.2 h
    refine r_iload hC dX8_exit_154 rfl ?_
    refine r_aload_n hC dX8_exit_156 rfl ?_
    refine gf_X8_123 hC dX8_exit_157 ?_
    refine r_bipush hC dX8_exit_160 (by decide) ?_
    refine r_iload_n hC dX8_exit_162 rfl ?_
    refine r_imul hC dX8_exit_163 ?_
    refine r_iload hC dX8_exit_164 rfl ?_
    refine r_iadd hC dX8_exit_166 ?_
    refine r_iaload hC rfl (by decide) hw.1 dX8_exit_167 ?_
    replace hw := hw.2
    refine r_icmp_eq (tgt := 175) hC dX8_exit_168 (by decide) (fun h => ?_) (fun h => ?_)
    · replace hw := hw.1 h
      refine r_iconst hC dX8_exit_175 ?_
      exact J.drop2 (j_X8_exit_176 hR hC hM hX48 hX71 x1 x2 x4 y0 0 σ hw) ⟨rfl, rfl, rfl, rfl, rfl, trivial⟩
    · replace hw := hw.2 h
      refine r_iconst hC dX8_exit_171 ?_
      refine r_goto (tgt := 176) hC dX8_exit_172 (by decide) ?_
      exact J.drop2 (j_X8_exit_176 hR hC hM hX48 hX71 x1 x2 x4 y0 1 σ hw) ⟨rfl, rfl, rfl, rfl, rfl, trivial⟩
def wp_X8_exit_71 (po : Int → St → Prop) (X48 : Int → Int → St → Prop) : Nat → Int → Int → Int → Int → St → Prop
  | 0, _, _, _, _, _ => False
  | n + 1, x1, x2, x3, x4, σ => (0 ≤ nm x2 ∧ nm x2 < 12) ∧ (nm (gI σ 110 38 (nm x2).toNat) ≤ nm x4 → (nm x3 = 0 → X48 x1 (x2 + 1) σ) ∧
 (nm x3 ≠ 0 → wp_X8_serve x2 σ (fun s103 => X48 x1 (x2 + 1) s103))) ∧
 (nm x4 < nm (gI σ 110 38 (nm x2).toNat) → (0 ≤ nm (((96 * x1) + (8 * x2)) + x4) ∧ nm (((96 * x1) + (8 * x2)) + x4) < 1536) ∧ (nm (gI σ 110 41 (nm (((96 * x1) + (8 * x2)) + x4)).toNat) = 0 → wp_X8_exit_71 po X48 n x1 x2 x3 (x4 + 1) σ) ∧
 (nm (gI σ 110 41 (nm (((96 * x1) + (8 * x2)) + x4)).toNat) ≠ 0 → (0 ≤ nm ((8 * x2) + x4) ∧ nm ((8 * x2) + x4) < 96) ∧ (0 ≤ nm ((gI σ 110 39 (nm ((8 * x2) + x4)).toNat) + (gI σ 110 41 (nm (((96 * x1) + (8 * x2)) + x4)).toNat)) → (nm ((gI σ 110 39 (nm ((8 * x2) + x4)).toNat) + (gI σ 110 41 (nm (((96 * x1) + (8 * x2)) + x4)).toNat)) ≤ nm 32767 → wp_X8_exit_148 po X48 (fun x1 x2 x3 x4 s9 => wp_X8_exit_71 po X48 n x1 x2 x3 x4 s9) x1 x2 x3 x4 ((gI σ 110 39 (nm ((8 * x2) + x4)).toNat) + (gI σ 110 41 (nm (((96 * x1) + (8 * x2)) + x4)).toNat)) σ) ∧
 (nm 32767 < nm ((gI σ 110 39 (nm ((8 * x2) + x4)).toNat) + (gI σ 110 41 (nm (((96 * x1) + (8 * x2)) + x4)).toNat)) → wp_X8_exit_148 po X48 (fun x1 x2 x3 x4 s9 => wp_X8_exit_71 po X48 n x1 x2 x3 x4 s9) x1 x2 x3 x4 32767 σ)) ∧
 (nm ((gI σ 110 39 (nm ((8 * x2) + x4)).toNat) + (gI σ 110 41 (nm (((96 * x1) + (8 * x2)) + x4)).toNat)) < 0 → wp_X8_exit_148 po X48 (fun x1 x2 x3 x4 s9 => wp_X8_exit_71 po X48 n x1 x2 x3 x4 s9) x1 x2 x3 x4 0 σ)))
set_option maxRecDepth 100000 in
set_option maxHeartbeats 4000000 in
theorem j_X8_exit_71 {K : JK} (hR : kRm K = ({ frames := 3, cells := 0, slots := 0, locals := 75 } : Room)) (hC : Cx K cX8_exit 7 RX8) {po : Int → St → Prop} (hM : Mx K (some .int) (PI po)) {X48 : Int → Int → St → Prop} (hX48 : ∀ (x1 : Int) (x2 : Int) (σ : St), X48 x1 x2 σ → J K 48 [some (wr 30 (some 0)), some (wi x1), some (wi x2), none, none, none, none] [] σ 0 0) : ∀ (n : Nat) (x1 : Int) (x2 : Int) (x3 : Int) (x4 : Int) (σ : St), wp_X8_exit_71 po X48 n x1 x2 x3 x4 σ → J K 71 [some (wr 30 (some 0)), some (wi x1), some (wi x2), some (wi x3), some (wi x4), none, none] [] σ 0 0 := by
  intro n
  induction n with
  | zero =>
    intro x1 x2 x3 x4 σ hw
    exact False.elim hw
  | succ n ih =>
    intro x1 x2 x3 x4 σ hw
    unfold wp_X8_exit_71 at hw
    refine r_iload hC dX8_exit_71 rfl ?_
    refine r_aload_n hC dX8_exit_73 rfl ?_
    refine gf_X8_120 hC dX8_exit_74 ?_
    refine r_iload_n hC dX8_exit_77 rfl ?_
    refine r_iaload hC rfl (by decide) hw.1 dX8_exit_78 ?_
    replace hw := hw.2
    refine r_icmp_ge (tgt := 228) hC dX8_exit_79 (by decide) (fun h => ?_) (fun h => ?_)
    · replace hw := hw.1 h
      refine r_iload_n hC dX8_exit_228 rfl ?_
      refine r_if_eq (tgt := 237) hC dX8_exit_229 (by decide) (fun h => ?_) (fun h => ?_)
      · replace hw := hw.1 h
        refine r_iinc (l' := [_, _, _, _, _, _, _]) hC dX8_exit_237 rfl rfl (by decide) rfl ?_
        refine r_goto (tgt := 48) hC dX8_exit_240 (by decide) ?_
        exact J.drop2 (hX48 x1 (x2 + 1) σ hw) ⟨rfl, rfl, rfl, trivial⟩
      · replace hw := hw.2 h
        refine r_aload_n hC dX8_exit_232 rfl ?_
        refine r_iload_n hC dX8_exit_233 rfl ?_
        refine cl_X8_160 hC (c_X8_serve (kL K) hw) (by rw [hR]; decide) (Nat.le_of_ble_eq_true rfl) dX8_exit_234 (fun s103 hq => ?_)
        clear hw
        have hw := hq
        clear hq
        refine r_iinc (l' := [_, _, _, _, _, _, _]) hC dX8_exit_237 rfl rfl (by decide) rfl ?_
        refine r_goto (tgt := 48) hC dX8_exit_240 (by decide) ?_
        exact J.drop2 (hX48 x1 (x2 + 1) s103 hw) ⟨rfl, rfl, rfl, trivial⟩
    · replace hw := hw.2 h
      refine r_aload_n hC dX8_exit_82 rfl ?_
      refine gf_X8_129 hC dX8_exit_83 ?_
      refine r_bipush hC dX8_exit_86 (by decide) ?_
      refine r_iload_n hC dX8_exit_88 rfl ?_
      refine r_imul hC dX8_exit_89 ?_
      refine r_bipush hC dX8_exit_90 (by decide) ?_
      refine r_iload_n hC dX8_exit_92 rfl ?_
      refine r_imul hC dX8_exit_93 ?_
      refine r_iadd hC dX8_exit_94 ?_
      refine r_iload hC dX8_exit_95 rfl ?_
      refine r_iadd hC dX8_exit_97 ?_
      refine r_iaload hC rfl (by decide) hw.1 dX8_exit_98 ?_
      replace hw := hw.2
      refine r_istore (l' := [_, _, _, _, _, _, _]) hC dX8_exit_99 rfl (by decide) rfl ?_
      refine r_iload hC dX8_exit_101 rfl ?_
      refine r_if_eq (tgt := 222) hC dX8_exit_103 (by decide) (fun h => ?_) (fun h => ?_)
      · replace hw := hw.1 h
        refine r_iinc (l' := [_, _, _, _, _, _, _]) hC dX8_exit_222 rfl rfl (by decide) rfl ?_
        refine r_goto (tgt := 71) hC dX8_exit_225 (by decide) ?_
        exact J.drop2 (ih x1 x2 x3 (x4 + 1) σ hw) ⟨rfl, rfl, rfl, rfl, rfl, trivial⟩
      · replace hw := hw.2 h
        refine r_aload_n hC dX8_exit_106 rfl ?_
        refine gf_X8_123 hC dX8_exit_107 ?_
        refine r_bipush hC dX8_exit_110 (by decide) ?_
        refine r_iload_n hC dX8_exit_112 rfl ?_
        refine r_imul hC dX8_exit_113 ?_
        refine r_iload hC dX8_exit_114 rfl ?_
        refine r_iadd hC dX8_exit_116 ?_
        refine r_iaload hC rfl (by decide) hw.1 dX8_exit_117 ?_
        replace hw := hw.2
        refine r_iload hC dX8_exit_118 rfl ?_
        refine r_iadd hC dX8_exit_120 ?_
        refine r_istore (l' := [_, _, _, _, _, _, _]) hC dX8_exit_121 rfl (by decide) rfl ?_
        refine r_iload hC dX8_exit_123 rfl ?_
        refine r_if_ge (tgt := 132) hC dX8_exit_125 (by decide) (fun h => ?_) (fun h => ?_)
        · replace hw := hw.1 h
          refine r_iload hC dX8_exit_132 rfl ?_
          refine r_sipush hC dX8_exit_134 (by decide) ?_
          refine r_icmp_le (tgt := 146) hC dX8_exit_137 (by decide) (fun h => ?_) (fun h => ?_)
          · replace hw := hw.1 h
            refine r_iload hC dX8_exit_146 rfl ?_
            exact J.drop2 (j_X8_exit_148 hR hC hM hX48 ih x1 x2 x3 x4 ((gI σ 110 39 (nm ((8 * x2) + x4)).toNat) + (gI σ 110 41 (nm (((96 * x1) + (8 * x2)) + x4)).toNat)) σ hw) ⟨rfl, rfl, rfl, rfl, rfl, trivial⟩
          · replace hw := hw.2 h
            refine r_sipush hC dX8_exit_140 (by decide) ?_
            refine r_goto (tgt := 148) hC dX8_exit_143 (by decide) ?_
            exact J.drop2 (j_X8_exit_148 hR hC hM hX48 ih x1 x2 x3 x4 32767 σ hw) ⟨rfl, rfl, rfl, rfl, rfl, trivial⟩
        · replace hw := hw.2 h
          refine r_iconst hC dX8_exit_128 ?_
          refine r_goto (tgt := 148) hC dX8_exit_129 (by decide) ?_
          exact J.drop2 (j_X8_exit_148 hR hC hM hX48 ih x1 x2 x3 x4 0 σ hw) ⟨rfl, rfl, rfl, rfl, rfl, trivial⟩
def wp_X8_exit_48 (po : Int → St → Prop) : Nat → Int → Int → St → Prop
  | 0, _, _, _ => False
  | n + 1, x1, x2, σ => (nm 12 ≤ nm x2 → po 1 σ) ∧
 (nm x2 < nm 12 → (0 ≤ nm (12 + x2) ∧ nm (12 + x2) < 24) ∧ (nm (gI σ 110 24 (nm (12 + x2)).toNat) = 0 → wp_X8_exit_48 po n x1 (x2 + 1) σ) ∧
 (nm (gI σ 110 24 (nm (12 + x2)).toNat) ≠ 0 → ∃ n9, wp_X8_exit_71 po (fun x1 x2 s9 => wp_X8_exit_48 po n x1 x2 s9) n9 x1 x2 0 0 σ))
set_option maxRecDepth 100000 in
set_option maxHeartbeats 4000000 in
theorem j_X8_exit_48 {K : JK} (hR : kRm K = ({ frames := 3, cells := 0, slots := 0, locals := 75 } : Room)) (hC : Cx K cX8_exit 7 RX8) {po : Int → St → Prop} (hM : Mx K (some .int) (PI po)) : ∀ (n : Nat) (x1 : Int) (x2 : Int) (σ : St), wp_X8_exit_48 po n x1 x2 σ → J K 48 [some (wr 30 (some 0)), some (wi x1), some (wi x2), none, none, none, none] [] σ 0 0 := by
  intro n
  induction n with
  | zero =>
    intro x1 x2 σ hw
    exact False.elim hw
  | succ n ih =>
    intro x1 x2 σ hw
    unfold wp_X8_exit_48 at hw
    refine r_iload_n hC dX8_exit_48 rfl ?_
    refine r_bipush hC dX8_exit_49 (by decide) ?_
    refine r_icmp_ge (tgt := 243) hC dX8_exit_51 (by decide) (fun h => ?_) (fun h => ?_)
    · replace hw := hw.1 h
      refine r_iconst hC dX8_exit_243 ?_
      exact r_ireturn hC hM ⟨_, rfl, hw⟩ (by rw [hR]; decide) (by rw [hR]; decide) dX8_exit_244
    · replace hw := hw.2 h
      refine r_aload_n hC dX8_exit_54 rfl ?_
      refine gf_X8_78 hC dX8_exit_55 ?_
      refine r_bipush hC dX8_exit_58 (by decide) ?_
      refine r_iload_n hC dX8_exit_60 rfl ?_
      refine r_iadd hC dX8_exit_61 ?_
      refine r_zaload hC rfl (by decide) hw.1 dX8_exit_62 ?_
      replace hw := hw.2
      refine r_if_eq (tgt := 237) hC dX8_exit_63 (by decide) (fun h => ?_) (fun h => ?_)
      · replace hw := hw.1 h
        refine r_iinc (l' := [_, _, _, _, _, _, _]) hC dX8_exit_237 rfl rfl (by decide) rfl ?_
        refine r_goto (tgt := 48) hC dX8_exit_240 (by decide) ?_
        exact J.drop2 (ih x1 (x2 + 1) σ hw) ⟨rfl, rfl, rfl, trivial⟩
      · replace hw := hw.2 h
        refine r_iconst hC dX8_exit_66 ?_
        refine r_istore_n (l' := [_, _, _, _, _, _, _]) hC dX8_exit_67 rfl (by decide) rfl ?_
        refine r_iconst hC dX8_exit_68 ?_
        refine r_istore (l' := [_, _, _, _, _, _, _]) hC dX8_exit_69 rfl (by decide) rfl ?_
        obtain ⟨n9, hw⟩ := hw
        exact J.drop2 (j_X8_exit_71 hR hC hM ih n9 x1 x2 0 0 σ hw) ⟨rfl, rfl, rfl, rfl, rfl, trivial⟩
def wp_X8_exit (x1 : Int) (σ : St) (po : Int → St → Prop) : Prop := wp_X8_isProcess x1 σ (fun r101 s101 => (nm r101 ≠ 0 → (0 ≤ nm x1 ∧ nm x1 < 16) ∧ (nm (gI s101 110 3 (nm x1).toNat) ≠ 0 → (0 ≤ nm x1 ∧ nm x1 < 16) ∧ (nm (gI s101 110 7 (nm x1).toNat) = 0 → (0 ≤ nm x1 ∧ nm x1 < 16) ∧ ∀ s102, s102 = uI s101 110 3 (nm x1).toNat 0 → ∃ n9, wp_X8_exit_48 po n9 x1 0 s102) ∧
 (nm (gI s101 110 7 (nm x1).toNat) ≠ 0 → wp_X8_goesOn x1 (-16) s101 (fun s107 => (0 ≤ nm x1 ∧ nm x1 < 16) ∧ ∀ s108, s108 = uI s107 110 3 (nm x1).toNat 0 → ∃ n9, wp_X8_exit_48 po n9 x1 0 s108))) ∧
 (nm (gI s101 110 3 (nm x1).toNat) = 0 → po (-3) s101)) ∧
 (nm r101 = 0 → po (-2) s101))
set_option maxRecDepth 100000 in
set_option maxHeartbeats 4000000 in
theorem c_X8_exit (l : Launch) {x1 : Int} {σ : St} {po : Int → St → Prop} (hw : wp_X8_exit x1 σ po) : MT l yX8_exit cX8_exit 7 (some .int) ({ frames := 3, cells := 0, slots := 0, locals := 75 } : Room) [wr 30 (some 0), wi x1] σ (PI po) := by
  refine MT_of (by decide) (Nat.le_of_ble_eq_true rfl) (fun K hL hR hC hM => ?_)
  subst hL
  unfold wp_X8_exit at hw
  show J K 0 [some (wr 30 (some 0)), some (wi x1), none, none, none, none, none] [] σ 0 0
  refine r_aload_n hC dX8_exit_0 rfl ?_
  refine r_iload_n hC dX8_exit_1 rfl ?_
  refine cl_X8_152 hC (c_X8_isProcess (kL K) hw) (by rw [hR]; decide) (Nat.le_of_ble_eq_true rfl) dX8_exit_2 (fun r101 s101 hq => ?_)
  clear hw
  have hw := hq
  clear hq
  refine r_if_ne (tgt := 11) hC dX8_exit_5 (by decide) (fun h => ?_) (fun h => ?_)
  · replace hw := hw.1 h
    refine r_aload_n hC dX8_exit_11 rfl ?_
    refine gf_X8_16 hC dX8_exit_12 ?_
    refine r_iload_n hC dX8_exit_15 rfl ?_
    refine r_zaload hC rfl (by decide) hw.1 dX8_exit_16 ?_
    replace hw := hw.2
    refine r_if_ne (tgt := 23) hC dX8_exit_17 (by decide) (fun h => ?_) (fun h => ?_)
    · replace hw := hw.1 h
      refine r_aload_n hC dX8_exit_23 rfl ?_
      refine gf_X8_30 hC dX8_exit_24 ?_
      refine r_iload_n hC dX8_exit_27 rfl ?_
      refine r_iaload hC rfl (by decide) hw.1 dX8_exit_28 ?_
      replace hw := hw.2
      refine r_if_eq (tgt := 39) hC dX8_exit_29 (by decide) (fun h => ?_) (fun h => ?_)
      · replace hw := hw.1 h
        refine r_aload_n hC dX8_exit_39 rfl ?_
        refine gf_X8_16 hC dX8_exit_40 ?_
        refine r_iload_n hC dX8_exit_43 rfl ?_
        refine r_iconst hC dX8_exit_44 ?_
        refine r_zastore hC (by decide) rfl (by decide) hw.1 dX8_exit_45 (fun s102 e9 => ?_)
        replace hw := hw.2 s102 e9
        clear e9
        refine r_iconst hC dX8_exit_46 ?_
        refine r_istore_n (l' := [_, _, _, _, _, _, _]) hC dX8_exit_47 rfl (by decide) rfl ?_
        obtain ⟨n9, hw⟩ := hw
        exact J.drop2 (j_X8_exit_48 hR hC hM n9 x1 0 s102 hw) ⟨rfl, rfl, rfl, trivial⟩
      · replace hw := hw.2 h
        refine r_aload_n hC dX8_exit_32 rfl ?_
        refine r_iload_n hC dX8_exit_33 rfl ?_
        refine r_bipush hC dX8_exit_34 (by decide) ?_
        refine cl_X8_156 hC (c_X8_goesOn (kL K) hw) (by rw [hR]; decide) (Nat.le_of_ble_eq_true rfl) dX8_exit_36 (fun s107 hq => ?_)
        clear hw
        have hw := hq
        clear hq
        refine r_aload_n hC dX8_exit_39 rfl ?_
        refine gf_X8_16 hC dX8_exit_40 ?_
        refine r_iload_n hC dX8_exit_43 rfl ?_
        refine r_iconst hC dX8_exit_44 ?_
        refine r_zastore hC (by decide) rfl (by decide) hw.1 dX8_exit_45 (fun s108 e9 => ?_)
        replace hw := hw.2 s108 e9
        clear e9
        refine r_iconst hC dX8_exit_46 ?_
        refine r_istore_n (l' := [_, _, _, _, _, _, _]) hC dX8_exit_47 rfl (by decide) rfl ?_
        obtain ⟨n9, hw⟩ := hw
        exact J.drop2 (j_X8_exit_48 hR hC hM n9 x1 0 s108 hw) ⟨rfl, rfl, rfl, trivial⟩
    · replace hw := hw.2 h
      refine r_bipush hC dX8_exit_20 (by decide) ?_
      exact r_ireturn hC hM ⟨_, rfl, hw⟩ (by rw [hR]; decide) (by rw [hR]; decide) dX8_exit_22
  · replace hw := hw.2 h
    refine r_bipush hC dX8_exit_8 (by decide) ?_
    exact r_ireturn hC hM ⟨_, rfl, hw⟩ (by rw [hR]; decide) (by rw [hR]; decide) dX8_exit_10
def wp_X8_signal (x1 : Int) (σ : St) (po : Int → St → Prop) : Prop := wp_X8_isProcess x1 σ (fun r101 s101 => (nm r101 ≠ 0 → (0 ≤ nm x1 ∧ nm x1 < 16) ∧ (nm (gI s101 110 7 (nm x1).toNat) ≠ 0 → wp_X8_goesOn x1 (-16) s101 (fun s102 => po 1 s102)) ∧
 (nm (gI s101 110 7 (nm x1).toNat) = 0 → po (-3) s101)) ∧
 (nm r101 = 0 → po (-2) s101))
set_option maxRecDepth 100000 in
set_option maxHeartbeats 4000000 in
theorem c_X8_signal (l : Launch) {x1 : Int} {σ : St} {po : Int → St → Prop} (hw : wp_X8_signal x1 σ po) : MT l yX8_signal cX8_signal 2 (some .int) ({ frames := 2, cells := 0, slots := 0, locals := 46 } : Room) [wr 30 (some 0), wi x1] σ (PI po) := by
  refine MT_of (by decide) (Nat.le_of_ble_eq_true rfl) (fun K hL hR hC hM => ?_)
  subst hL
  unfold wp_X8_signal at hw
  show J K 0 [some (wr 30 (some 0)), some (wi x1)] [] σ 0 0
  refine r_aload_n hC dX8_signal_0 rfl ?_
  refine r_iload_n hC dX8_signal_1 rfl ?_
  refine cl_X8_152 hC (c_X8_isProcess (kL K) hw) (by rw [hR]; decide) (Nat.le_of_ble_eq_true rfl) dX8_signal_2 (fun r101 s101 hq => ?_)
  clear hw
  have hw := hq
  clear hq
  refine r_if_ne (tgt := 11) hC dX8_signal_5 (by decide) (fun h => ?_) (fun h => ?_)
  · replace hw := hw.1 h
    refine r_aload_n hC dX8_signal_11 rfl ?_
    refine gf_X8_30 hC dX8_signal_12 ?_
    refine r_iload_n hC dX8_signal_15 rfl ?_
    refine r_iaload hC rfl (by decide) hw.1 dX8_signal_16 ?_
    replace hw := hw.2
    refine r_if_ne (tgt := 23) hC dX8_signal_17 (by decide) (fun h => ?_) (fun h => ?_)
    · replace hw := hw.1 h
      refine r_aload_n hC dX8_signal_23 rfl ?_
      refine r_iload_n hC dX8_signal_24 rfl ?_
      refine r_bipush hC dX8_signal_25 (by decide) ?_
      refine cl_X8_156 hC (c_X8_goesOn (kL K) hw) (by rw [hR]; decide) (Nat.le_of_ble_eq_true rfl) dX8_signal_27 (fun s102 hq => ?_)
      clear hw
      have hw := hq
      clear hq
      refine r_iconst hC dX8_signal_30 ?_
      exact r_ireturn hC hM ⟨_, rfl, hw⟩ (by rw [hR]; decide) (by rw [hR]; decide) dX8_signal_31
    · replace hw := hw.2 h
      refine r_bipush hC dX8_signal_20 (by decide) ?_
      exact r_ireturn hC hM ⟨_, rfl, hw⟩ (by rw [hR]; decide) (by rw [hR]; decide) dX8_signal_22
  · replace hw := hw.2 h
    refine r_bipush hC dX8_signal_8 (by decide) ?_
    exact r_ireturn hC hM ⟨_, rfl, hw⟩ (by rw [hR]; decide) (by rw [hR]; decide) dX8_signal_10
def wp_X8_result (x1 : Int) (σ : St) (po : Int → St → Prop) : Prop := wp_X8_isProcess x1 σ (fun r101 s101 => (nm r101 = 0 → po (-2) s101) ∧
 (nm r101 ≠ 0 → (0 ≤ nm x1 ∧ nm x1 < 16) ∧ po (gI s101 110 4 (nm x1).toNat) s101))
set_option maxRecDepth 100000 in
set_option maxHeartbeats 4000000 in
theorem c_X8_result (l : Launch) {x1 : Int} {σ : St} {po : Int → St → Prop} (hw : wp_X8_result x1 σ po) : MT l yX8_result cX8_result 2 (some .int) ({ frames := 2, cells := 0, slots := 0, locals := 46 } : Room) [wr 30 (some 0), wi x1] σ (PI po) := by
  refine MT_of (by decide) (Nat.le_of_ble_eq_true rfl) (fun K hL hR hC hM => ?_)
  subst hL
  unfold wp_X8_result at hw
  show J K 0 [some (wr 30 (some 0)), some (wi x1)] [] σ 0 0
  refine r_aload_n hC dX8_result_0 rfl ?_
  refine r_iload_n hC dX8_result_1 rfl ?_
  refine cl_X8_152 hC (c_X8_isProcess (kL K) hw) (by rw [hR]; decide) (Nat.le_of_ble_eq_true rfl) dX8_result_2 (fun r101 s101 hq => ?_)
  clear hw
  have hw := hq
  clear hq
  refine r_if_eq (tgt := 17) hC dX8_result_5 (by decide) (fun h => ?_) (fun h => ?_)
  · replace hw := hw.1 h
    refine r_bipush hC dX8_result_17 (by decide) ?_
    exact r_ireturn hC hM ⟨_, rfl, hw⟩ (by rw [hR]; decide) (by rw [hR]; decide) dX8_result_19
  · replace hw := hw.2 h
    refine r_aload_n hC dX8_result_8 rfl ?_
    refine gf_X8_20 hC dX8_result_9 ?_
    refine r_iload_n hC dX8_result_12 rfl ?_
    refine r_iaload hC rfl (by decide) hw.1 dX8_result_13 ?_
    replace hw := hw.2
    refine r_goto (tgt := 19) hC dX8_result_14 (by decide) ?_
    exact r_ireturn hC hM ⟨_, rfl, hw⟩ (by rw [hR]; decide) (by rw [hR]; decide) dX8_result_19
def wp_X8_area (x1 : Int) (x2 : Int) (x3 : Int) (σ : St) (po : Int → St → Prop) : Prop := wp_X8_isProcess x1 σ (fun r101 s101 => (nm r101 ≠ 0 → wp_X8_in (nm x2) 0 63 s101 (fun r102 s102 => (nm r102 = 0 → po (-4) s102) ∧
 (nm r102 ≠ 0 → wp_X8_in (nm x3) 0 255 s102 (fun r103 s103 => (nm r103 ≠ 0 → (0 ≤ nm ((64 * x1) + x2) ∧ nm ((64 * x1) + x2) < 1024) ∧ (0 ≤ nm ((64 * x1) + x2) ∧ nm ((64 * x1) + x2) < 1024) ∧ ∀ s104, s104 = uI s103 110 5 (nm ((64 * x1) + x2)).toNat x3 → po (gI s103 110 5 (nm ((64 * x1) + x2)).toNat) s104) ∧
 (nm r103 = 0 → po (-4) s103))))) ∧
 (nm r101 = 0 → po (-2) s101))
set_option maxRecDepth 100000 in
set_option maxHeartbeats 4000000 in
theorem c_X8_area (l : Launch) {x1 : Int} {x2 : Int} {x3 : Int} {σ : St} {po : Int → St → Prop} (hw : wp_X8_area x1 x2 x3 σ po) : MT l yX8_area cX8_area 5 (some .int) ({ frames := 2, cells := 0, slots := 0, locals := 46 } : Room) [wr 30 (some 0), wi x1, wi x2, wi x3] σ (PI po) := by
  refine MT_of (by decide) (Nat.le_of_ble_eq_true rfl) (fun K hL hR hC hM => ?_)
  subst hL
  unfold wp_X8_area at hw
  show J K 0 [some (wr 30 (some 0)), some (wi x1), some (wi x2), some (wi x3), none] [] σ 0 0
  refine r_aload_n hC dX8_area_0 rfl ?_
  refine r_iload_n hC dX8_area_1 rfl ?_
  refine cl_X8_152 hC (c_X8_isProcess (kL K) hw) (by rw [hR]; decide) (Nat.le_of_ble_eq_true rfl) dX8_area_2 (fun r101 s101 hq => ?_)
  clear hw
  have hw := hq
  clear hq
  refine r_if_ne (tgt := 11) hC dX8_area_5 (by decide) (fun h => ?_) (fun h => ?_)
  · replace hw := hw.1 h
    refine r_iload_n hC dX8_area_11 rfl ?_
    refine r_i2l hC dX8_area_12 ?_
    refine r_lconst hC 0 rfl dX8_area_13 ?_
    refine r_ldc2 hC 63 (wg 968 (by decide +kernel) (by decide +kernel)) rfl dX8_area_14 ?_
    refine cl_X8_142 hC (c_X8_in (kL K) hw) (by rw [hR]; decide) (Nat.le_of_ble_eq_true rfl) dX8_area_17 (fun r102 s102 hq => ?_)
    clear hw
    have hw := hq
    clear hq
    refine r_if_eq (tgt := 35) hC dX8_area_20 (by decide) (fun h => ?_) (fun h => ?_)
    · replace hw := hw.1 h
      refine r_bipush hC dX8_area_35 (by decide) ?_
      exact r_ireturn hC hM ⟨_, rfl, hw⟩ (by rw [hR]; decide) (by rw [hR]; decide) dX8_area_37
    · replace hw := hw.2 h
      refine r_iload_n hC dX8_area_23 rfl ?_
      refine r_i2l hC dX8_area_24 ?_
      refine r_lconst hC 0 rfl dX8_area_25 ?_
      refine r_ldc2 hC 255 (wg 969 (by decide +kernel) (by decide +kernel)) rfl dX8_area_26 ?_
      refine cl_X8_142 hC (c_X8_in (kL K) hw) (by rw [hR]; decide) (Nat.le_of_ble_eq_true rfl) dX8_area_29 (fun r103 s103 hq => ?_)
      clear hw
      have hw := hq
      clear hq
      refine r_if_ne (tgt := 38) hC dX8_area_32 (by decide) (fun h => ?_) (fun h => ?_)
      · replace hw := hw.1 h
        refine r_aload_n hC dX8_area_38 rfl ?_
        refine gf_X8_23 hC dX8_area_39 ?_
        refine r_bipush hC dX8_area_42 (by decide) ?_
        refine r_iload_n hC dX8_area_44 rfl ?_
        refine r_imul hC dX8_area_45 ?_
        refine r_iload_n hC dX8_area_46 rfl ?_
        refine r_iadd hC dX8_area_47 ?_
        refine r_iaload hC rfl (by decide) hw.1 dX8_area_48 ?_
        replace hw := hw.2
        refine r_istore (l' := [_, _, _, _, _]) hC dX8_area_49 rfl (by decide) rfl ?_
        refine r_aload_n hC dX8_area_51 rfl ?_
        refine gf_X8_23 hC dX8_area_52 ?_
        refine r_bipush hC dX8_area_55 (by decide) ?_
        refine r_iload_n hC dX8_area_57 rfl ?_
        refine r_imul hC dX8_area_58 ?_
        refine r_iload_n hC dX8_area_59 rfl ?_
        refine r_iadd hC dX8_area_60 ?_
        refine r_iload_n hC dX8_area_61 rfl ?_
        refine r_iastore hC rfl (by decide) hw.1 dX8_area_62 (fun s104 e9 => ?_)
        replace hw := hw.2 s104 e9
        clear e9
        refine r_iload hC dX8_area_63 rfl ?_
        exact r_ireturn hC hM ⟨_, rfl, hw⟩ (by rw [hR]; decide) (by rw [hR]; decide) dX8_area_65
      · replace hw := hw.2 h
        refine r_bipush hC dX8_area_35 (by decide) ?_
        exact r_ireturn hC hM ⟨_, rfl, hw⟩ (by rw [hR]; decide) (by rw [hR]; decide) dX8_area_37
  · replace hw := hw.2 h
    refine r_bipush hC dX8_area_8 (by decide) ?_
    exact r_ireturn hC hM ⟨_, rfl, hw⟩ (by rw [hR]; decide) (by rw [hR]; decide) dX8_area_10
def wp_X8_areaAt (x1 : Int) (x2 : Int) (σ : St) (po : Int → St → Prop) : Prop := wp_X8_isProcess x1 σ (fun r101 s101 => (nm r101 ≠ 0 → wp_X8_in (nm x2) 0 63 s101 (fun r102 s102 => (nm r102 = 0 → po (-4) s102) ∧
 (nm r102 ≠ 0 → (0 ≤ nm ((64 * x1) + x2) ∧ nm ((64 * x1) + x2) < 1024) ∧ po (gI s102 110 5 (nm ((64 * x1) + x2)).toNat) s102))) ∧
 (nm r101 = 0 → po (-2) s101))
set_option maxRecDepth 100000 in
set_option maxHeartbeats 4000000 in
theorem c_X8_areaAt (l : Launch) {x1 : Int} {x2 : Int} {σ : St} {po : Int → St → Prop} (hw : wp_X8_areaAt x1 x2 σ po) : MT l yX8_areaAt cX8_areaAt 3 (some .int) ({ frames := 2, cells := 0, slots := 0, locals := 46 } : Room) [wr 30 (some 0), wi x1, wi x2] σ (PI po) := by
  refine MT_of (by decide) (Nat.le_of_ble_eq_true rfl) (fun K hL hR hC hM => ?_)
  subst hL
  unfold wp_X8_areaAt at hw
  show J K 0 [some (wr 30 (some 0)), some (wi x1), some (wi x2)] [] σ 0 0
  refine r_aload_n hC dX8_areaAt_0 rfl ?_
  refine r_iload_n hC dX8_areaAt_1 rfl ?_
  refine cl_X8_152 hC (c_X8_isProcess (kL K) hw) (by rw [hR]; decide) (Nat.le_of_ble_eq_true rfl) dX8_areaAt_2 (fun r101 s101 hq => ?_)
  clear hw
  have hw := hq
  clear hq
  refine r_if_ne (tgt := 13) hC dX8_areaAt_5 (by decide) (fun h => ?_) (fun h => ?_)
  · replace hw := hw.1 h
    refine r_iload_n hC dX8_areaAt_13 rfl ?_
    refine r_i2l hC dX8_areaAt_14 ?_
    refine r_lconst hC 0 rfl dX8_areaAt_15 ?_
    refine r_ldc2 hC 63 (wg 968 (by decide +kernel) (by decide +kernel)) rfl dX8_areaAt_16 ?_
    refine cl_X8_142 hC (c_X8_in (kL K) hw) (by rw [hR]; decide) (Nat.le_of_ble_eq_true rfl) dX8_areaAt_19 (fun r102 s102 hq => ?_)
    clear hw
    have hw := hq
    clear hq
    refine r_if_eq (tgt := 39) hC dX8_areaAt_22 (by decide) (fun h => ?_) (fun h => ?_)
    · replace hw := hw.1 h
      refine r_bipush hC dX8_areaAt_39 (by decide) ?_
      exact r_ireturn hC hM ⟨_, rfl, hw⟩ (by rw [hR]; decide) (by rw [hR]; decide) dX8_areaAt_41
    · replace hw := hw.2 h
      refine r_aload_n hC dX8_areaAt_25 rfl ?_
      refine gf_X8_23 hC dX8_areaAt_26 ?_
      refine r_bipush hC dX8_areaAt_29 (by decide) ?_
      refine r_iload_n hC dX8_areaAt_31 rfl ?_
      refine r_imul hC dX8_areaAt_32 ?_
      refine r_iload_n hC dX8_areaAt_33 rfl ?_
      refine r_iadd hC dX8_areaAt_34 ?_
      refine r_iaload hC rfl (by decide) hw.1 dX8_areaAt_35 ?_
      replace hw := hw.2
      refine r_goto (tgt := 41) hC dX8_areaAt_36 (by decide) ?_
      exact r_ireturn hC hM ⟨_, rfl, hw⟩ (by rw [hR]; decide) (by rw [hR]; decide) dX8_areaAt_41
  · replace hw := hw.2 h
    refine r_bipush hC dX8_areaAt_8 (by decide) ?_
    refine r_goto (tgt := 41) hC dX8_areaAt_10 (by decide) ?_
    exact r_ireturn hC hM ⟨_, rfl, hw⟩ (by rw [hR]; decide) (by rw [hR]; decide) dX8_areaAt_41
def wp_X8_taken (x1 : Int) (σ : St) (po : Int → St → Prop) : Prop := wp_X8_isProcess x1 σ (fun r101 s101 => (nm r101 = 0 → po (-2) s101) ∧
 (nm r101 ≠ 0 → (0 ≤ nm x1 ∧ nm x1 < 16) ∧ po (gL s101 110 6 (nm x1).toNat) s101))
set_option maxRecDepth 100000 in
set_option maxHeartbeats 4000000 in
theorem c_X8_taken (l : Launch) {x1 : Int} {σ : St} {po : Int → St → Prop} (hw : wp_X8_taken x1 σ po) : MT l yX8_taken cX8_taken 2 (some .long) ({ frames := 2, cells := 0, slots := 0, locals := 46 } : Room) [wr 30 (some 0), wi x1] σ (PL po) := by
  refine MT_of (by decide) (Nat.le_of_ble_eq_true rfl) (fun K hL hR hC hM => ?_)
  subst hL
  unfold wp_X8_taken at hw
  show J K 0 [some (wr 30 (some 0)), some (wi x1)] [] σ 0 0
  refine r_aload_n hC dX8_taken_0 rfl ?_
  refine r_iload_n hC dX8_taken_1 rfl ?_
  refine cl_X8_152 hC (c_X8_isProcess (kL K) hw) (by rw [hR]; decide) (Nat.le_of_ble_eq_true rfl) dX8_taken_2 (fun r101 s101 hq => ?_)
  clear hw
  have hw := hq
  clear hq
  refine r_if_eq (tgt := 17) hC dX8_taken_5 (by decide) (fun h => ?_) (fun h => ?_)
  · replace hw := hw.1 h
    refine r_ldc2 hC (-2) (wg 978 (by decide +kernel) (by decide +kernel)) rfl dX8_taken_17 ?_
    exact r_lreturn hC hM ⟨_, rfl, hw⟩ (by rw [hR]; decide) (by rw [hR]; decide) dX8_taken_20
  · replace hw := hw.2 h
    refine r_aload_n hC dX8_taken_8 rfl ?_
    refine gf_X8_26 hC dX8_taken_9 ?_
    refine r_iload_n hC dX8_taken_12 rfl ?_
    refine r_laload hC rfl (by decide) hw.1 dX8_taken_13 ?_
    replace hw := hw.2
    refine r_goto (tgt := 20) hC dX8_taken_14 (by decide) ?_
    exact r_lreturn hC hM ⟨_, rfl, hw⟩ (by rw [hR]; decide) (by rw [hR]; decide) dX8_taken_20
def wp_X8_wait (x1 : Int) (x2 : Int) (x3 : Int) (σ : St) (po : St → Prop) : Prop := (0 ≤ nm x1 ∧ nm x1 < 16) ∧ ∀ s101, s101 = uI σ 110 7 (nm x1).toNat x2 → (0 ≤ nm x1 ∧ nm x1 < 16) ∧ ∀ s102, s102 = uI s101 110 9 (nm x1).toNat x3 → ∀ s103, s103 = uI s102 101 0 0 ((gI s102 101 0 0) + 1) → (0 ≤ nm x1 ∧ nm x1 < 16) ∧ ∀ s104, s104 = uI s103 110 8 (nm x1).toNat (gI s103 101 0 0) → po s104
set_option maxRecDepth 100000 in
set_option maxHeartbeats 4000000 in
theorem c_X8_wait (l : Launch) {x1 : Int} {x2 : Int} {x3 : Int} {σ : St} {po : St → Prop} (hw : wp_X8_wait x1 x2 x3 σ po) : MT l yX8_wait cX8_wait 4 none ({ frames := 0, cells := 0, slots := 0, locals := 0 } : Room) [wr 30 (some 0), wi x1, wi x2, wi x3] σ (PV po) := by
  refine MT_of (by decide) (Nat.le_of_ble_eq_true rfl) (fun K hL hR hC hM => ?_)
  subst hL
  unfold wp_X8_wait at hw
  show J K 0 [some (wr 30 (some 0)), some (wi x1), some (wi x2), some (wi x3)] [] σ 0 0
  refine r_aload_n hC dX8_wait_0 rfl ?_
  refine gf_X8_30 hC dX8_wait_1 ?_
  refine r_iload_n hC dX8_wait_4 rfl ?_
  refine r_iload_n hC dX8_wait_5 rfl ?_
  refine r_iastore hC rfl (by decide) hw.1 dX8_wait_6 (fun s101 e9 => ?_)
  replace hw := hw.2 s101 e9
  clear e9
  refine r_aload_n hC dX8_wait_7 rfl ?_
  refine gf_X8_36 hC dX8_wait_8 ?_
  refine r_iload_n hC dX8_wait_11 rfl ?_
  refine r_iload_n hC dX8_wait_12 rfl ?_
  refine r_iastore hC rfl (by decide) hw.1 dX8_wait_13 (fun s102 e9 => ?_)
  replace hw := hw.2 s102 e9
  clear e9
  refine r_aload_n hC dX8_wait_14 rfl ?_
  refine r_dup hC dX8_wait_15 rfl ?_
  refine gf_X8_170 hC dX8_wait_16 ?_
  refine r_iconst hC dX8_wait_19 ?_
  refine r_iadd hC dX8_wait_20 ?_
  refine pf_X8_170 hC dX8_wait_21 (fun s103 e9 => ?_)
  replace hw := hw s103 e9
  clear e9
  refine r_aload_n hC dX8_wait_24 rfl ?_
  refine gf_X8_33 hC dX8_wait_25 ?_
  refine r_iload_n hC dX8_wait_28 rfl ?_
  refine r_aload_n hC dX8_wait_29 rfl ?_
  refine gf_X8_170 hC dX8_wait_30 ?_
  refine r_iastore hC rfl (by decide) hw.1 dX8_wait_33 (fun s104 e9 => ?_)
  replace hw := hw.2 s104 e9
  clear e9
  exact r_vreturn hC hM ⟨rfl, hw⟩ (by rw [hR]; decide) (by rw [hR]; decide) dX8_wait_34
def wp_X8_withKey_8 (po : Int → St → Prop) : Nat → Int → Int → Int → Int → St → Prop
  | 0, _, _, _, _, _ => False
  | n + 1, x1, x2, x3, x4, σ => (nm x4 < nm x2 → po x3 σ) ∧
 (nm x2 ≤ nm x4 → (nm x1 = 0 → wp_X8_withKey_8 po n x1 x2 x3 (x4 + (-1)) σ) ∧
 (nm x1 ≠ 0 → (0 ≤ nm x4 ∧ nm x4 < 24) ∧ (nm (gI σ 110 24 (nm x4).toNat) = 0 → wp_X8_withKey_8 po n x1 x2 x3 (x4 + (-1)) σ) ∧
 (nm (gI σ 110 24 (nm x4).toNat) ≠ 0 → (0 ≤ nm x4 ∧ nm x4 < 24) ∧ (nm (gI σ 110 26 (nm x4).toNat) ≠ nm x1 → wp_X8_withKey_8 po n x1 x2 x3 (x4 + (-1)) σ) ∧
 (nm (gI σ 110 26 (nm x4).toNat) = nm x1 → wp_X8_withKey_8 po n x1 x2 x4 (x4 + (-1)) σ))))
set_option maxRecDepth 100000 in
set_option maxHeartbeats 4000000 in
theorem j_X8_withKey_8 {K : JK} (hR : kRm K = ({ frames := 0, cells := 0, slots := 0, locals := 0 } : Room)) (hC : Cx K cX8_withKey 5 RX8) {po : Int → St → Prop} (hM : Mx K (some .int) (PI po)) : ∀ (n : Nat) (x1 : Int) (x2 : Int) (x3 : Int) (x4 : Int) (σ : St), wp_X8_withKey_8 po n x1 x2 x3 x4 σ → J K 8 [some (wr 30 (some 0)), some (wi x1), some (wi x2), some (wi x3), some (wi x4)] [] σ 0 0 := by
  intro n
  induction n with
  | zero =>
    intro x1 x2 x3 x4 σ hw
    exact False.elim hw
  | succ n ih =>
    intro x1 x2 x3 x4 σ hw
    unfold wp_X8_withKey_8 at hw
    refine r_iload hC dX8_withKey_8 rfl ?_
    refine r_iload_n hC dX8_withKey_10 rfl ?_
    refine r_icmp_lt (tgt := 52) hC dX8_withKey_11 (by decide) (fun h => ?_) (fun h => ?_)
    · replace hw := hw.1 h
      refine r_iload_n hC dX8_withKey_52 rfl ?_
      exact r_ireturn hC hM ⟨_, rfl, hw⟩ (by rw [hR]; decide) (by rw [hR]; decide) dX8_withKey_53
    · replace hw := hw.2 h
      refine r_iload_n hC dX8_withKey_14 rfl ?_
      refine r_if_eq (tgt := 44) hC dX8_withKey_15 (by decide) (fun h => ?_) (fun h => ?_)
      · replace hw := hw.1 h
        refine r_iload_n hC dX8_withKey_44 rfl ?_
        refine r_istore_n (l' := [_, _, _, _, _]) hC dX8_withKey_45 rfl (by decide) rfl ?_
        refine r_iinc (l' := [_, _, _, _, _]) hC dX8_withKey_46 rfl rfl (by decide) rfl ?_
        refine r_goto (tgt := 8) hC dX8_withKey_49 (by decide) ?_
        exact J.drop2 (ih x1 x2 x3 (x4 + (-1)) σ hw) ⟨rfl, rfl, rfl, rfl, rfl, trivial⟩
      · replace hw := hw.2 h
        refine r_aload_n hC dX8_withKey_18 rfl ?_
        refine gf_X8_78 hC dX8_withKey_19 ?_
        refine r_iload hC dX8_withKey_22 rfl ?_
        refine r_zaload hC rfl (by decide) hw.1 dX8_withKey_24 ?_
        replace hw := hw.2
        refine r_if_eq (tgt := 44) hC dX8_withKey_25 (by decide) (fun h => ?_) (fun h => ?_)
        · replace hw := hw.1 h
          refine r_iload_n hC dX8_withKey_44 rfl ?_
          refine r_istore_n (l' := [_, _, _, _, _]) hC dX8_withKey_45 rfl (by decide) rfl ?_
          refine r_iinc (l' := [_, _, _, _, _]) hC dX8_withKey_46 rfl rfl (by decide) rfl ?_
          refine r_goto (tgt := 8) hC dX8_withKey_49 (by decide) ?_
          exact J.drop2 (ih x1 x2 x3 (x4 + (-1)) σ hw) ⟨rfl, rfl, rfl, rfl, rfl, trivial⟩
        · replace hw := hw.2 h
          refine r_aload_n hC dX8_withKey_28 rfl ?_
          refine gf_X8_84 hC dX8_withKey_29 ?_
          refine r_iload hC dX8_withKey_32 rfl ?_
          refine r_iaload hC rfl (by decide) hw.1 dX8_withKey_34 ?_
          replace hw := hw.2
          refine r_iload_n hC dX8_withKey_35 rfl ?_
          refine r_icmp_ne (tgt := 44) hC dX8_withKey_36 (by decide) (fun h => ?_) (fun h => ?_)
          · replace hw := hw.1 h
            refine r_iload_n hC dX8_withKey_44 rfl ?_
            refine r_istore_n (l' := [_, _, _, _, _]) hC dX8_withKey_45 rfl (by decide) rfl ?_
            refine r_iinc (l' := [_, _, _, _, _]) hC dX8_withKey_46 rfl rfl (by decide) rfl ?_
            refine r_goto (tgt := 8) hC dX8_withKey_49 (by decide) ?_
            exact J.drop2 (ih x1 x2 x3 (x4 + (-1)) σ hw) ⟨rfl, rfl, rfl, rfl, rfl, trivial⟩
          · replace hw := hw.2 h
            refine r_iload hC dX8_withKey_39 rfl ?_
            refine r_goto (tgt := 45) hC dX8_withKey_41 (by decide) ?_
            refine r_istore_n (l' := [_, _, _, _, _]) hC dX8_withKey_45 rfl (by decide) rfl ?_
            refine r_iinc (l' := [_, _, _, _, _]) hC dX8_withKey_46 rfl rfl (by decide) rfl ?_
            refine r_goto (tgt := 8) hC dX8_withKey_49 (by decide) ?_
            exact J.drop2 (ih x1 x2 x4 (x4 + (-1)) σ hw) ⟨rfl, rfl, rfl, rfl, rfl, trivial⟩
def wp_X8_withKey (x1 : Int) (x2 : Int) (σ : St) (po : Int → St → Prop) : Prop := ∃ n9, wp_X8_withKey_8 po n9 x1 x2 (-1) (x2 + 11) σ
set_option maxRecDepth 100000 in
set_option maxHeartbeats 4000000 in
theorem c_X8_withKey (l : Launch) {x1 : Int} {x2 : Int} {σ : St} {po : Int → St → Prop} (hw : wp_X8_withKey x1 x2 σ po) : MT l yX8_withKey cX8_withKey 5 (some .int) ({ frames := 0, cells := 0, slots := 0, locals := 0 } : Room) [wr 30 (some 0), wi x1, wi x2] σ (PI po) := by
  refine MT_of (by decide) (Nat.le_of_ble_eq_true rfl) (fun K hL hR hC hM => ?_)
  subst hL
  unfold wp_X8_withKey at hw
  show J K 0 [some (wr 30 (some 0)), some (wi x1), some (wi x2), none, none] [] σ 0 0
  refine r_iconst hC dX8_withKey_0 ?_
  refine r_istore_n (l' := [_, _, _, _, _]) hC dX8_withKey_1 rfl (by decide) rfl ?_
  refine r_iload_n hC dX8_withKey_2 rfl ?_
  refine r_bipush hC dX8_withKey_3 (by decide) ?_
  refine r_iadd hC dX8_withKey_5 ?_
  refine r_istore (l' := [_, _, _, _, _]) hC dX8_withKey_6 rfl (by decide) rfl ?_
  obtain ⟨n9, hw⟩ := hw
  exact J.drop2 (j_X8_withKey_8 hR hC hM n9 x1 x2 (-1) (x2 + 11) σ hw) ⟨rfl, rfl, rfl, rfl, rfl, trivial⟩
def wp_X8_freeSlot_7 (po : Int → St → Prop) : Nat → Int → Int → Int → St → Prop
  | 0, _, _, _, _ => False
  | n + 1, x1, x2, x3, σ => (nm x3 < nm x1 → po x2 σ) ∧
 (nm x1 ≤ nm x3 → (0 ≤ nm x3 ∧ nm x3 < 24) ∧ (nm (gI σ 110 24 (nm x3).toNat) = 0 → wp_X8_freeSlot_7 po n x1 x3 (x3 + (-1)) σ) ∧
 (nm (gI σ 110 24 (nm x3).toNat) ≠ 0 → wp_X8_freeSlot_7 po n x1 x2 (x3 + (-1)) σ))
set_option maxRecDepth 100000 in
set_option maxHeartbeats 4000000 in
theorem j_X8_freeSlot_7 {K : JK} (hR : kRm K = ({ frames := 0, cells := 0, slots := 0, locals := 0 } : Room)) (hC : Cx K cX8_freeSlot 4 RX8) {po : Int → St → Prop} (hM : Mx K (some .int) (PI po)) : ∀ (n : Nat) (x1 : Int) (x2 : Int) (x3 : Int) (σ : St), wp_X8_freeSlot_7 po n x1 x2 x3 σ → J K 7 [some (wr 30 (some 0)), some (wi x1), some (wi x2), some (wi x3)] [] σ 0 0 := by
  intro n
  induction n with
  | zero =>
    intro x1 x2 x3 σ hw
    exact False.elim hw
  | succ n ih =>
    intro x1 x2 x3 σ hw
    unfold wp_X8_freeSlot_7 at hw
    refine r_iload_n hC dX8_freeSlot_7 rfl ?_
    refine r_iload_n hC dX8_freeSlot_8 rfl ?_
    refine r_icmp_lt (tgt := 33) hC dX8_freeSlot_9 (by decide) (fun h => ?_) (fun h => ?_)
    · replace hw := hw.1 h
      refine r_iload_n hC dX8_freeSlot_33 rfl ?_
      exact r_ireturn hC hM ⟨_, rfl, hw⟩ (by rw [hR]; decide) (by rw [hR]; decide) dX8_freeSlot_34
    · replace hw := hw.2 h
      refine r_aload_n hC dX8_freeSlot_12 rfl ?_
      refine gf_X8_78 hC dX8_freeSlot_13 ?_
      refine r_iload_n hC dX8_freeSlot_16 rfl ?_
      refine r_zaload hC rfl (by decide) hw.1 dX8_freeSlot_17 ?_
      replace hw := hw.2
      refine r_if_eq (tgt := 25) hC dX8_freeSlot_18 (by decide) (fun h => ?_) (fun h => ?_)
      · replace hw := hw.1 h
        refine r_iload_n hC dX8_freeSlot_25 rfl ?_
        refine r_istore_n (l' := [_, _, _, _]) hC dX8_freeSlot_26 rfl (by decide) rfl ?_
        refine r_iinc (l' := [_, _, _, _]) hC dX8_freeSlot_27 rfl rfl (by decide) rfl ?_
        refine r_goto (tgt := 7) hC dX8_freeSlot_30 (by decide) ?_
        exact J.drop2 (ih x1 x3 (x3 + (-1)) σ hw) ⟨rfl, rfl, rfl, rfl, trivial⟩
      · replace hw := hw.2 h
        refine r_iload_n hC dX8_freeSlot_21 rfl ?_
        refine r_goto (tgt := 26) hC dX8_freeSlot_22 (by decide) ?_
        refine r_istore_n (l' := [_, _, _, _]) hC dX8_freeSlot_26 rfl (by decide) rfl ?_
        refine r_iinc (l' := [_, _, _, _]) hC dX8_freeSlot_27 rfl rfl (by decide) rfl ?_
        refine r_goto (tgt := 7) hC dX8_freeSlot_30 (by decide) ?_
        exact J.drop2 (ih x1 x2 (x3 + (-1)) σ hw) ⟨rfl, rfl, rfl, rfl, trivial⟩
def wp_X8_freeSlot (x1 : Int) (σ : St) (po : Int → St → Prop) : Prop := ∃ n9, wp_X8_freeSlot_7 po n9 x1 (-1) (x1 + 11) σ
set_option maxRecDepth 100000 in
set_option maxHeartbeats 4000000 in
theorem c_X8_freeSlot (l : Launch) {x1 : Int} {σ : St} {po : Int → St → Prop} (hw : wp_X8_freeSlot x1 σ po) : MT l yX8_freeSlot cX8_freeSlot 4 (some .int) ({ frames := 0, cells := 0, slots := 0, locals := 0 } : Room) [wr 30 (some 0), wi x1] σ (PI po) := by
  refine MT_of (by decide) (Nat.le_of_ble_eq_true rfl) (fun K hL hR hC hM => ?_)
  subst hL
  unfold wp_X8_freeSlot at hw
  show J K 0 [some (wr 30 (some 0)), some (wi x1), none, none] [] σ 0 0
  refine r_iconst hC dX8_freeSlot_0 ?_
  refine r_istore_n (l' := [_, _, _, _]) hC dX8_freeSlot_1 rfl (by decide) rfl ?_
  refine r_iload_n hC dX8_freeSlot_2 rfl ?_
  refine r_bipush hC dX8_freeSlot_3 (by decide) ?_
  refine r_iadd hC dX8_freeSlot_5 ?_
  refine r_istore_n (l' := [_, _, _, _]) hC dX8_freeSlot_6 rfl (by decide) rfl ?_
  obtain ⟨n9, hw⟩ := hw
  exact J.drop2 (j_X8_freeSlot_7 hR hC hM n9 x1 (-1) (x1 + 11) σ hw) ⟨rfl, rfl, rfl, rfl, trivial⟩
def wp_X8_wanted (x1 : Int) (σ : St) (po : Int → St → Prop) : Prop := po (zand (zor (zor (zshr x1 6) (zshr x1 3)) x1) 7) σ
set_option maxRecDepth 100000 in
set_option maxHeartbeats 4000000 in
theorem c_X8_wanted (l : Launch) {x1 : Int} {σ : St} {po : Int → St → Prop} (hw : wp_X8_wanted x1 σ po) : MT l yX8_wanted cX8_wanted 1 (some .int) ({ frames := 0, cells := 0, slots := 0, locals := 0 } : Room) [wi x1] σ (PI po) := by
  refine MT_of (by decide) (Nat.le_of_ble_eq_true rfl) (fun K hL hR hC hM => ?_)
  subst hL
  unfold wp_X8_wanted at hw
  show J K 0 [some (wi x1)] [] σ 0 0
  refine r_iload_n hC dX8_wanted_0 rfl ?_
  refine r_bipush hC dX8_wanted_1 (by decide) ?_
  refine r_ishr hC dX8_wanted_3 ?_
  refine r_iload_n hC dX8_wanted_4 rfl ?_
  refine r_iconst hC dX8_wanted_5 ?_
  refine r_ishr hC dX8_wanted_6 ?_
  refine r_ior hC dX8_wanted_7 ?_
  refine r_iload_n hC dX8_wanted_8 rfl ?_
  refine r_ior hC dX8_wanted_9 ?_
  refine r_bipush hC dX8_wanted_10 (by decide) ?_
  refine r_iand hC dX8_wanted_12 ?_
  exact r_ireturn hC hM ⟨_, rfl, hw⟩ (by rw [hR]; decide) (by rw [hR]; decide) dX8_wanted_13
