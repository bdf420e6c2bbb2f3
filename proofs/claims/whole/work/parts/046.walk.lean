/-! WALKS 6, printed by wip/whole/gen/mkwalks.py -/
def wp_X8_own (x1 : Int) (x2 : Int) (x3 : Int) (x4 : Int) (x5 : Int) (x6 : Int) (σ : St) (po : Int → St → Prop) : Prop := wp_X8_isProcess x1 σ (fun r101 s101 => (nm r101 ≠ 0 → wp_X8_isFree x1 s101 (fun r102 s102 => (nm r102 ≠ 0 → wp_X8_in (nm x2) 0 1 s102 (fun r103 s103 => (nm r103 = 0 → wp_X8_tells x1 (-4) s103 (fun r104 s104 => po r104 s104)) ∧
 (nm r103 ≠ 0 → wp_X8_in (nm x4) 0 99 s103 (fun r105 s105 => (nm r105 = 0 → wp_X8_tells x1 (-4) s105 (fun r106 s106 => po r106 s106)) ∧
 (nm r105 ≠ 0 → wp_X8_in (nm x5) 0 99 s105 (fun r107 s107 => (nm r107 = 0 → wp_X8_tells x1 (-4) s107 (fun r108 s108 => po r108 s108)) ∧
 (nm r107 ≠ 0 → wp_X8_in (nm x6) 0 511 s107 (fun r109 s109 => (nm r109 ≠ 0 → wp_X8_slotOf x3 (12 * x2) s109 (fun r110 s110 => (nm r110 ≠ nm (-1) → wp_X8_rules x1 r110 s110 (fun r111 s111 => (nm r111 ≠ 0 → (0 ≤ nm r110 ∧ nm r110 < 24) ∧ ∀ s112, s112 = uI s111 110 27 (nm r110).toNat x4 → (0 ≤ nm r110 ∧ nm r110 < 24) ∧ ∀ s113, s113 = uI s112 110 28 (nm r110).toNat x5 → (0 ≤ nm r110 ∧ nm r110 < 24) ∧ ∀ s114, s114 = uI s113 110 31 (nm r110).toNat x6 → wp_X8_tells x1 0 s114 (fun r112 s115 => po r112 s115)) ∧
 (nm r111 = 0 → wp_X8_tells x1 (-6) s111 (fun r113 s116 => po r113 s116)))) ∧
 (nm r110 = nm (-1) → wp_X8_tells x1 (-5) s110 (fun r114 s117 => po r114 s117)))) ∧
 (nm r109 = 0 → wp_X8_tells x1 (-4) s109 (fun r115 s118 => po r115 s118)))))))))) ∧
 (nm r102 = 0 → po (-3) s102))) ∧
 (nm r101 = 0 → po (-2) s101))
set_option maxRecDepth 100000 in
set_option maxHeartbeats 4000000 in
theorem c_X8_own (l : Launch) {x1 : Int} {x2 : Int} {x3 : Int} {x4 : Int} {x5 : Int} {x6 : Int} {σ : St} {po : Int → St → Prop} (hw : wp_X8_own x1 x2 x3 x4 x5 x6 σ po) : MT l yX8_own cX8_own 8 (some .int) ({ frames := 2, cells := 0, slots := 0, locals := 46 } : Room) [wr 30 (some 0), wi x1, wi x2, wi x3, wi x4, wi x5, wi x6] σ (PI po) := by
  refine MT_of (by decide) (Nat.le_of_ble_eq_true rfl) (fun K hL hR hC hM => ?_)
  subst hL
  unfold wp_X8_own at hw
  show J K 0 [some (wr 30 (some 0)), some (wi x1), some (wi x2), some (wi x3), some (wi x4), some (wi x5), some (wi x6), none] [] σ 0 0
  refine r_aload_n hC dX8_own_0 rfl ?_
  refine r_iload_n hC dX8_own_1 rfl ?_
  refine cl_X8_152 hC (c_X8_isProcess (kL K) hw) (by rw [hR]; decide) (Nat.le_of_ble_eq_true rfl) dX8_own_2 (fun r101 s101 hq => ?_)
  clear hw
  have hw := hq
  clear hq
  refine r_if_ne (tgt := 11) hC dX8_own_5 (by decide) (fun h => ?_) (fun h => ?_)
  · replace hw := hw.1 h
    refine r_aload_n hC dX8_own_11 rfl ?_
    refine r_iload_n hC dX8_own_12 rfl ?_
    refine cl_X8_173 hC (c_X8_isFree (kL K) hw) (by rw [hR]; decide) (Nat.le_of_ble_eq_true rfl) dX8_own_13 (fun r102 s102 hq => ?_)
    clear hw
    have hw := hq
    clear hq
    refine r_if_ne (tgt := 22) hC dX8_own_16 (by decide) (fun h => ?_) (fun h => ?_)
    · replace hw := hw.1 h
      refine r_iload_n hC dX8_own_22 rfl ?_
      refine r_i2l hC dX8_own_23 ?_
      refine r_lconst hC 0 rfl dX8_own_24 ?_
      refine r_lconst hC 1 rfl dX8_own_25 ?_
      refine cl_X8_142 hC (c_X8_in (kL K) hw) (by rw [hR]; decide) (Nat.le_of_ble_eq_true rfl) dX8_own_26 (fun r103 s103 hq => ?_)
      clear hw
      have hw := hq
      clear hq
      refine r_if_eq (tgt := 71) hC dX8_own_29 (by decide) (fun h => ?_) (fun h => ?_)
      · replace hw := hw.1 h
        refine r_aload_n hC dX8_own_71 rfl ?_
        refine r_iload_n hC dX8_own_72 rfl ?_
        refine r_bipush hC dX8_own_73 (by decide) ?_
        refine cl_X8_180 hC (c_X8_tells (kL K) hw) (by rw [hR]; decide) (Nat.le_of_ble_eq_true rfl) dX8_own_75 (fun r104 s104 hq => ?_)
        clear hw
        have hw := hq
        clear hq
        exact r_ireturn hC hM ⟨_, rfl, hw⟩ (by rw [hR]; decide) (by rw [hR]; decide) dX8_own_78
      · replace hw := hw.2 h
        refine r_iload hC dX8_own_32 rfl ?_
        refine r_i2l hC dX8_own_34 ?_
        refine r_lconst hC 0 rfl dX8_own_35 ?_
        refine r_ldc2 hC 99 (wg 926 (by decide +kernel) (by decide +kernel)) rfl dX8_own_36 ?_
        refine cl_X8_142 hC (c_X8_in (kL K) hw) (by rw [hR]; decide) (Nat.le_of_ble_eq_true rfl) dX8_own_39 (fun r105 s105 hq => ?_)
        clear hw
        have hw := hq
        clear hq
        refine r_if_eq (tgt := 71) hC dX8_own_42 (by decide) (fun h => ?_) (fun h => ?_)
        · replace hw := hw.1 h
          refine r_aload_n hC dX8_own_71 rfl ?_
          refine r_iload_n hC dX8_own_72 rfl ?_
          refine r_bipush hC dX8_own_73 (by decide) ?_
          refine cl_X8_180 hC (c_X8_tells (kL K) hw) (by rw [hR]; decide) (Nat.le_of_ble_eq_true rfl) dX8_own_75 (fun r106 s106 hq => ?_)
          clear hw
          have hw := hq
          clear hq
          exact r_ireturn hC hM ⟨_, rfl, hw⟩ (by rw [hR]; decide) (by rw [hR]; decide) dX8_own_78
        · replace hw := hw.2 h
          refine r_iload hC dX8_own_45 rfl ?_
          refine r_i2l hC dX8_own_47 ?_
          refine r_lconst hC 0 rfl dX8_own_48 ?_
          refine r_ldc2 hC 99 (wg 926 (by decide +kernel) (by decide +kernel)) rfl dX8_own_49 ?_
          refine cl_X8_142 hC (c_X8_in (kL K) hw) (by rw [hR]; decide) (Nat.le_of_ble_eq_true rfl) dX8_own_52 (fun r107 s107 hq => ?_)
          clear hw
          have hw := hq
          clear hq
          refine r_if_eq (tgt := 71) hC dX8_own_55 (by decide) (fun h => ?_) (fun h => ?_)
          · replace hw := hw.1 h
            refine r_aload_n hC dX8_own_71 rfl ?_
            refine r_iload_n hC dX8_own_72 rfl ?_
            refine r_bipush hC dX8_own_73 (by decide) ?_
            refine cl_X8_180 hC (c_X8_tells (kL K) hw) (by rw [hR]; decide) (Nat.le_of_ble_eq_true rfl) dX8_own_75 (fun r108 s108 hq => ?_)
            clear hw
            have hw := hq
            clear hq
            exact r_ireturn hC hM ⟨_, rfl, hw⟩ (by rw [hR]; decide) (by rw [hR]; decide) dX8_own_78
          · replace hw := hw.2 h
            refine r_iload hC dX8_own_58 rfl ?_
            refine r_i2l hC dX8_own_60 ?_
            refine r_lconst hC 0 rfl dX8_own_61 ?_
            refine r_ldc2 hC 511 (wg 1064 (by decide +kernel) (by decide +kernel)) rfl dX8_own_62 ?_
            refine cl_X8_142 hC (c_X8_in (kL K) hw) (by rw [hR]; decide) (Nat.le_of_ble_eq_true rfl) dX8_own_65 (fun r109 s109 hq => ?_)
            clear hw
            have hw := hq
            clear hq
            refine r_if_ne (tgt := 79) hC dX8_own_68 (by decide) (fun h => ?_) (fun h => ?_)
            · replace hw := hw.1 h
              refine r_aload_n hC dX8_own_79 rfl ?_
              refine r_iload_n hC dX8_own_80 rfl ?_
              refine r_bipush hC dX8_own_81 (by decide) ?_
              refine r_iload_n hC dX8_own_83 rfl ?_
              refine r_imul hC dX8_own_84 ?_
              refine cl_X8_206 hC (c_X8_slotOf (kL K) hw) (by rw [hR]; decide) (Nat.le_of_ble_eq_true rfl) dX8_own_85 (fun r110 s110 hq => ?_)
              clear hw
              have hw := hq
              clear hq
              refine r_istore (l' := [_, _, _, _, _, _, _, _]) hC dX8_own_88 rfl (by decide) rfl ?_
              refine r_iload hC dX8_own_90 rfl ?_
              refine r_iconst hC dX8_own_92 ?_
              refine r_icmp_ne (tgt := 104) hC dX8_own_93 (by decide) (fun h => ?_) (fun h => ?_)
              · replace hw := hw.1 h
                refine r_aload_n hC dX8_own_104 rfl ?_
                refine r_iload_n hC dX8_own_105 rfl ?_
                refine r_iload hC dX8_own_106 rfl ?_
                refine cl_X8_209 hC (c_X8_rules (kL K) hw) (by rw [hR]; decide) (Nat.le_of_ble_eq_true rfl) dX8_own_108 (fun r111 s111 hq => ?_)
                clear hw
                have hw := hq
                clear hq
                refine r_if_ne (tgt := 122) hC dX8_own_111 (by decide) (fun h => ?_) (fun h => ?_)
                · replace hw := hw.1 h
                  refine r_aload_n hC dX8_own_122 rfl ?_
                  refine gf_X8_87 hC dX8_own_123 ?_
                  refine r_iload hC dX8_own_126 rfl ?_
                  refine r_iload hC dX8_own_128 rfl ?_
                  refine r_iastore hC rfl (by decide) hw.1 dX8_own_130 (fun s112 e9 => ?_)
                  replace hw := hw.2 s112 e9
                  clear e9
                  refine r_aload_n hC dX8_own_131 rfl ?_
                  refine gf_X8_90 hC dX8_own_132 ?_
                  refine r_iload hC dX8_own_135 rfl ?_
                  refine r_iload hC dX8_own_137 rfl ?_
                  refine r_iastore hC rfl (by decide) hw.1 dX8_own_139 (fun s113 e9 => ?_)
                  replace hw := hw.2 s113 e9
                  clear e9
                  refine r_aload_n hC dX8_own_140 rfl ?_
                  refine gf_X8_99 hC dX8_own_141 ?_
                  refine r_iload hC dX8_own_144 rfl ?_
                  refine r_iload hC dX8_own_146 rfl ?_
                  refine r_iastore hC rfl (by decide) hw.1 dX8_own_148 (fun s114 e9 => ?_)
                  replace hw := hw.2 s114 e9
                  clear e9
                  refine r_aload_n hC dX8_own_149 rfl ?_
                  refine r_iload_n hC dX8_own_150 rfl ?_
                  refine r_iconst hC dX8_own_151 ?_
                  refine cl_X8_180 hC (c_X8_tells (kL K) hw) (by rw [hR]; decide) (Nat.le_of_ble_eq_true rfl) dX8_own_152 (fun r112 s115 hq => ?_)
                  clear hw
                  have hw := hq
                  clear hq
                  exact r_ireturn hC hM ⟨_, rfl, hw⟩ (by rw [hR]; decide) (by rw [hR]; decide) dX8_own_155
                · replace hw := hw.2 h
                  refine r_aload_n hC dX8_own_114 rfl ?_
                  refine r_iload_n hC dX8_own_115 rfl ?_
                  refine r_bipush hC dX8_own_116 (by decide) ?_
                  refine cl_X8_180 hC (c_X8_tells (kL K) hw) (by rw [hR]; decide) (Nat.le_of_ble_eq_true rfl) dX8_own_118 (fun r113 s116 hq => ?_)
                  clear hw
                  have hw := hq
                  clear hq
                  exact r_ireturn hC hM ⟨_, rfl, hw⟩ (by rw [hR]; decide) (by rw [hR]; decide) dX8_own_121
              · replace hw := hw.2 h
                refine r_aload_n hC dX8_own_96 rfl ?_
                refine r_iload_n hC dX8_own_97 rfl ?_
                refine r_bipush hC dX8_own_98 (by decide) ?_
                refine cl_X8_180 hC (c_X8_tells (kL K) hw) (by rw [hR]; decide) (Nat.le_of_ble_eq_true rfl) dX8_own_100 (fun r114 s117 hq => ?_)
                clear hw
                have hw := hq
                clear hq
                exact r_ireturn hC hM ⟨_, rfl, hw⟩ (by rw [hR]; decide) (by rw [hR]; decide) dX8_own_103
            · replace hw := hw.2 h
              refine r_aload_n hC dX8_own_71 rfl ?_
              refine r_iload_n hC dX8_own_72 rfl ?_
              refine r_bipush hC dX8_own_73 (by decide) ?_
              refine cl_X8_180 hC (c_X8_tells (kL K) hw) (by rw [hR]; decide) (Nat.le_of_ble_eq_true rfl) dX8_own_75 (fun r115 s118 hq => ?_)
              clear hw
              have hw := hq
              clear hq
              exact r_ireturn hC hM ⟨_, rfl, hw⟩ (by rw [hR]; decide) (by rw [hR]; decide) dX8_own_78
    · replace hw := hw.2 h
      refine r_bipush hC dX8_own_19 (by decide) ?_
      exact r_ireturn hC hM ⟨_, rfl, hw⟩ (by rw [hR]; decide) (by rw [hR]; decide) dX8_own_21
  · replace hw := hw.2 h
    refine r_bipush hC dX8_own_8 (by decide) ?_
    exact r_ireturn hC hM ⟨_, rfl, hw⟩ (by rw [hR]; decide) (by rw [hR]; decide) dX8_own_10
def wp_X8_room (x1 : Int) (x2 : Int) (x3 : Int) (σ : St) (po : Int → St → Prop) : Prop := wp_X8_isProcess x1 σ (fun r101 s101 => (nm r101 ≠ 0 → wp_X8_isFree x1 s101 (fun r102 s102 => (nm r102 ≠ 0 → wp_X8_in (nm x3) 0 1000 s102 (fun r103 s103 => (nm r103 ≠ 0 → wp_X8_slotOf x2 0 s103 (fun r104 s104 => (nm r104 ≠ nm (-1) → wp_X8_rules x1 r104 s104 (fun r105 s105 => (nm r105 = 0 → wp_X8_tells x1 (-6) s105 (fun r106 s106 => po r106 s106)) ∧
 (nm r105 ≠ 0 → (0 ≤ nm r104 ∧ nm r104 < 12) ∧ (nm x3 ≤ nm (gI s105 110 33 (nm r104).toNat) → (0 ≤ nm r104 ∧ nm r104 < 12) ∧ ∀ s107, s107 = uI s105 110 33 (nm r104).toNat x3 → (0 ≤ nm x1 ∧ nm x1 < 16) ∧ ∀ s108, s108 = uI s107 110 4 (nm x1).toNat 0 → wp_X8_lookAtSenders  s108 (fun s109 => po 0 s109)) ∧
 (nm (gI s105 110 33 (nm r104).toNat) < nm x3 → (0 ≤ nm x1 ∧ nm x1 < 16) ∧ (nm (gI s105 110 1 (nm x1).toNat) = 0 → (0 ≤ nm r104 ∧ nm r104 < 12) ∧ ∀ s110, s110 = uI s105 110 33 (nm r104).toNat x3 → (0 ≤ nm x1 ∧ nm x1 < 16) ∧ ∀ s111, s111 = uI s110 110 4 (nm x1).toNat 0 → wp_X8_lookAtSenders  s111 (fun s112 => po 0 s112)) ∧
 (nm (gI s105 110 1 (nm x1).toNat) ≠ 0 → wp_X8_tells x1 (-6) s105 (fun r107 s113 => po r107 s113)))))) ∧
 (nm r104 = nm (-1) → wp_X8_tells x1 (-5) s104 (fun r108 s114 => po r108 s114)))) ∧
 (nm r103 = 0 → wp_X8_tells x1 (-4) s103 (fun r109 s115 => po r109 s115)))) ∧
 (nm r102 = 0 → po (-3) s102))) ∧
 (nm r101 = 0 → po (-2) s101))
set_option maxRecDepth 100000 in
set_option maxHeartbeats 4000000 in
theorem c_X8_room (l : Launch) {x1 : Int} {x2 : Int} {x3 : Int} {σ : St} {po : Int → St → Prop} (hw : wp_X8_room x1 x2 x3 σ po) : MT l yX8_room cX8_room 5 (some .int) ({ frames := 4, cells := 0, slots := 0, locals := 93 } : Room) [wr 30 (some 0), wi x1, wi x2, wi x3] σ (PI po) := by
  refine MT_of (by decide) (Nat.le_of_ble_eq_true rfl) (fun K hL hR hC hM => ?_)
  subst hL
  unfold wp_X8_room at hw
  show J K 0 [some (wr 30 (some 0)), some (wi x1), some (wi x2), some (wi x3), none] [] σ 0 0
  refine r_aload_n hC dX8_room_0 rfl ?_
  refine r_iload_n hC dX8_room_1 rfl ?_
  refine cl_X8_152 hC (c_X8_isProcess (kL K) hw) (by rw [hR]; decide) (Nat.le_of_ble_eq_true rfl) dX8_room_2 (fun r101 s101 hq => ?_)
  clear hw
  have hw := hq
  clear hq
  refine r_if_ne (tgt := 11) hC dX8_room_5 (by decide) (fun h => ?_) (fun h => ?_)
  · replace hw := hw.1 h
    refine r_aload_n hC dX8_room_11 rfl ?_
    refine r_iload_n hC dX8_room_12 rfl ?_
    refine cl_X8_173 hC (c_X8_isFree (kL K) hw) (by rw [hR]; decide) (Nat.le_of_ble_eq_true rfl) dX8_room_13 (fun r102 s102 hq => ?_)
    clear hw
    have hw := hq
    clear hq
    refine r_if_ne (tgt := 22) hC dX8_room_16 (by decide) (fun h => ?_) (fun h => ?_)
    · replace hw := hw.1 h
      refine r_iload_n hC dX8_room_22 rfl ?_
      refine r_i2l hC dX8_room_23 ?_
      refine r_lconst hC 0 rfl dX8_room_24 ?_
      refine r_ldc2 hC 1000 (wg 1069 (by decide +kernel) (by decide +kernel)) rfl dX8_room_25 ?_
      refine cl_X8_142 hC (c_X8_in (kL K) hw) (by rw [hR]; decide) (Nat.le_of_ble_eq_true rfl) dX8_room_28 (fun r103 s103 hq => ?_)
      clear hw
      have hw := hq
      clear hq
      refine r_if_ne (tgt := 42) hC dX8_room_31 (by decide) (fun h => ?_) (fun h => ?_)
      · replace hw := hw.1 h
        refine r_aload_n hC dX8_room_42 rfl ?_
        refine r_iload_n hC dX8_room_43 rfl ?_
        refine r_iconst hC dX8_room_44 ?_
        refine cl_X8_206 hC (c_X8_slotOf (kL K) hw) (by rw [hR]; decide) (Nat.le_of_ble_eq_true rfl) dX8_room_45 (fun r104 s104 hq => ?_)
        clear hw
        have hw := hq
        clear hq
        refine r_istore (l' := [_, _, _, _, _]) hC dX8_room_48 rfl (by decide) rfl ?_
        refine r_iload hC dX8_room_50 rfl ?_
        refine r_iconst hC dX8_room_52 ?_
        refine r_icmp_ne (tgt := 64) hC dX8_room_53 (by decide) (fun h => ?_) (fun h => ?_)
        · replace hw := hw.1 h
          refine r_aload_n hC dX8_room_64 rfl ?_
          refine r_iload_n hC dX8_room_65 rfl ?_
          refine r_iload hC dX8_room_66 rfl ?_
          refine cl_X8_209 hC (c_X8_rules (kL K) hw) (by rw [hR]; decide) (Nat.le_of_ble_eq_true rfl) dX8_room_68 (fun r105 s105 hq => ?_)
          clear hw
          have hw := hq
          clear hq
          refine r_if_eq (tgt := 94) hC dX8_room_71 (by decide) (fun h => ?_) (fun h => ?_)
          · replace hw := hw.1 h
            refine r_aload_n hC dX8_room_94 rfl ?_
            refine r_iload_n hC dX8_room_95 rfl ?_
            refine r_bipush hC dX8_room_96 (by decide) ?_
            refine cl_X8_180 hC (c_X8_tells (kL K) hw) (by rw [hR]; decide) (Nat.le_of_ble_eq_true rfl) dX8_room_98 (fun r106 s106 hq => ?_)
            clear hw
            have hw := hq
            clear hq
            exact r_ireturn hC hM ⟨_, rfl, hw⟩ (by rw [hR]; decide) (by rw [hR]; decide) dX8_room_101
          · replace hw := hw.2 h
            refine r_iload_n hC dX8_room_74 rfl ?_
            refine r_aload_n hC dX8_room_75 rfl ?_
            refine gf_X8_105 hC dX8_room_76 ?_
            refine r_iload hC dX8_room_79 rfl ?_
            refine r_iaload hC rfl (by decide) hw.1 dX8_room_81 ?_
            replace hw := hw.2
            refine r_icmp_le (tgt := 102) hC dX8_room_82 (by decide) (fun h => ?_) (fun h => ?_)
            · replace hw := hw.1 h
              refine r_aload_n hC dX8_room_102 rfl ?_
              refine gf_X8_105 hC dX8_room_103 ?_
              refine r_iload hC dX8_room_106 rfl ?_
              refine r_iload_n hC dX8_room_108 rfl ?_
              refine r_iastore hC rfl (by decide) hw.1 dX8_room_109 (fun s107 e9 => ?_)
              replace hw := hw.2 s107 e9
              clear e9
              refine r_aload_n hC dX8_room_110 rfl ?_
              refine gf_X8_20 hC dX8_room_111 ?_
              refine r_iload_n hC dX8_room_114 rfl ?_
              refine r_iconst hC dX8_room_115 ?_
              refine r_iastore hC rfl (by decide) hw.1 dX8_room_116 (fun s108 e9 => ?_)
              replace hw := hw.2 s108 e9
              clear e9
              refine r_aload_n hC dX8_room_117 rfl ?_
              refine cl_X8_213 hC (c_X8_lookAtSenders (kL K) hw) (by rw [hR]; decide) (Nat.le_of_ble_eq_true rfl) dX8_room_118 (fun s109 hq => ?_)
              clear hw
              have hw := hq
              clear hq
              refine r_iconst hC dX8_room_121 ?_
              exact r_ireturn hC hM ⟨_, rfl, hw⟩ (by rw [hR]; decide) (by rw [hR]; decide) dX8_room_122
            · replace hw := hw.2 h
              refine r_aload_n hC dX8_room_85 rfl ?_
              refine gf_X8_7 hC dX8_room_86 ?_
              refine r_iload_n hC dX8_room_89 rfl ?_
              refine r_iaload hC rfl (by decide) hw.1 dX8_room_90 ?_
              replace hw := hw.2
              refine r_if_eq (tgt := 102) hC dX8_room_91 (by decide) (fun h => ?_) (fun h => ?_)
              · replace hw := hw.1 h
                refine r_aload_n hC dX8_room_102 rfl ?_
                refine gf_X8_105 hC dX8_room_103 ?_
                refine r_iload hC dX8_room_106 rfl ?_
                refine r_iload_n hC dX8_room_108 rfl ?_
                refine r_iastore hC rfl (by decide) hw.1 dX8_room_109 (fun s110 e9 => ?_)
                replace hw := hw.2 s110 e9
                clear e9
                refine r_aload_n hC dX8_room_110 rfl ?_
                refine gf_X8_20 hC dX8_room_111 ?_
                refine r_iload_n hC dX8_room_114 rfl ?_
                refine r_iconst hC dX8_room_115 ?_
                refine r_iastore hC rfl (by decide) hw.1 dX8_room_116 (fun s111 e9 => ?_)
                replace hw := hw.2 s111 e9
                clear e9
                refine r_aload_n hC dX8_room_117 rfl ?_
                refine cl_X8_213 hC (c_X8_lookAtSenders (kL K) hw) (by rw [hR]; decide) (Nat.le_of_ble_eq_true rfl) dX8_room_118 (fun s112 hq => ?_)
                clear hw
                have hw := hq
                clear hq
                refine r_iconst hC dX8_room_121 ?_
                exact r_ireturn hC hM ⟨_, rfl, hw⟩ (by rw [hR]; decide) (by rw [hR]; decide) dX8_room_122
              · replace hw := hw.2 h
                refine r_aload_n hC dX8_room_94 rfl ?_
                refine r_iload_n hC dX8_room_95 rfl ?_
                refine r_bipush hC dX8_room_96 (by decide) ?_
                refine cl_X8_180 hC (c_X8_tells (kL K) hw) (by rw [hR]; decide) (Nat.le_of_ble_eq_true rfl) dX8_room_98 (fun r107 s113 hq => ?_)
                clear hw
                have hw := hq
                clear hq
                exact r_ireturn hC hM ⟨_, rfl, hw⟩ (by rw [hR]; decide) (by rw [hR]; decide) dX8_room_101
        · replace hw := hw.2 h
          refine r_aload_n hC dX8_room_56 rfl ?_
          refine r_iload_n hC dX8_room_57 rfl ?_
          refine r_bipush hC dX8_room_58 (by decide) ?_
          refine cl_X8_180 hC (c_X8_tells (kL K) hw) (by rw [hR]; decide) (Nat.le_of_ble_eq_true rfl) dX8_room_60 (fun r108 s114 hq => ?_)
          clear hw
          have hw := hq
          clear hq
          exact r_ireturn hC hM ⟨_, rfl, hw⟩ (by rw [hR]; decide) (by rw [hR]; decide) dX8_room_63
      · replace hw := hw.2 h
        refine r_aload_n hC dX8_room_34 rfl ?_
        refine r_iload_n hC dX8_room_35 rfl ?_
        refine r_bipush hC dX8_room_36 (by decide) ?_
        refine cl_X8_180 hC (c_X8_tells (kL K) hw) (by rw [hR]; decide) (Nat.le_of_ble_eq_true rfl) dX8_room_38 (fun r109 s115 hq => ?_)
        clear hw
        have hw := hq
        clear hq
        exact r_ireturn hC hM ⟨_, rfl, hw⟩ (by rw [hR]; decide) (by rw [hR]; decide) dX8_room_41
    · replace hw := hw.2 h
      refine r_bipush hC dX8_room_19 (by decide) ?_
      exact r_ireturn hC hM ⟨_, rfl, hw⟩ (by rw [hR]; decide) (by rw [hR]; decide) dX8_room_21
  · replace hw := hw.2 h
    refine r_bipush hC dX8_room_8 (by decide) ?_
    exact r_ireturn hC hM ⟨_, rfl, hw⟩ (by rw [hR]; decide) (by rw [hR]; decide) dX8_room_10
def wp_X8_send_120 (po : Int → St → Prop) : Nat → Int → Int → Int → Int → St → Prop
  | 0, _, _, _, _, _ => False
  | n + 1, x1, x6, x7, x8, σ => (nm 64 ≤ nm x8 → wp_X8_isSent x7 x1 σ (fun r108 s110 => (nm r108 = 0 → (nm x6 = 0 → wp_X8_wait x1 1 x7 s110 (fun s111 => wp_X8_tells x1 (-10) s111 (fun r109 s112 => po r109 s112))) ∧
 (nm x6 ≠ 0 → wp_X8_tells x1 (-11) s110 (fun r110 s113 => po r110 s113))) ∧
 (nm r108 ≠ 0 → wp_X8_tells x1 0 s110 (fun r111 s114 => po r111 s114)))) ∧
 (nm x8 < nm 64 → (0 ≤ nm ((64 * x1) + x8) ∧ nm ((64 * x1) + x8) < 1024) ∧ (0 ≤ nm ((64 * x1) + x8) ∧ nm ((64 * x1) + x8) < 1024) ∧ ∀ s115, s115 = uI σ 110 13 (nm ((64 * x1) + x8)).toNat (gI σ 110 5 (nm ((64 * x1) + x8)).toNat) → wp_X8_send_120 po n x1 x6 x7 (x8 + 1) s115)
set_option maxRecDepth 100000 in
set_option maxHeartbeats 4000000 in
theorem j_X8_send_120 {K : JK} (hR : kRm K = ({ frames := 3, cells := 0, slots := 0, locals := 71 } : Room)) (hC : Cx K cX8_send 9 RX8) {po : Int → St → Prop} (hM : Mx K (some .int) (PI po)) : ∀ (n : Nat) (x1 : Int) (x6 : Int) (x7 : Int) (x8 : Int) (σ : St), wp_X8_send_120 po n x1 x6 x7 x8 σ → J K 120 [some (wr 30 (some 0)), some (wi x1), none, none, none, none, some (wi x6), some (wi x7), some (wi x8)] [] σ 0 0 := by
  intro n
  induction n with
  | zero =>
    intro x1 x6 x7 x8 σ hw
    exact False.elim hw
  | succ n ih =>
    intro x1 x6 x7 x8 σ hw
    unfold wp_X8_send_120 at hw
    refine r_iload hC dX8_send_120 rfl ?_
    refine r_bipush hC dX8_send_122 (by decide) ?_
    refine r_icmp_ge (tgt := 157) hC dX8_send_124 (by decide) (fun h => ?_) (fun h => ?_)
    · replace hw := hw.1 h
      refine r_aload_n hC dX8_send_157 rfl ?_
      refine r_iload hC dX8_send_158 rfl ?_
      refine r_iload_n hC dX8_send_160 rfl ?_
      refine cl_X8_239 hC (c_X8_isSent (kL K) hw) (by rw [hR]; decide) (Nat.le_of_ble_eq_true rfl) dX8_send_161 (fun r108 s110 hq => ?_)
      clear hw
      have hw := hq
      clear hq
      refine r_if_eq (tgt := 174) hC dX8_send_164 (by decide) (fun h => ?_) (fun h => ?_)
      · replace hw := hw.1 h
        refine r_iload hC dX8_send_174 rfl ?_
        refine r_if_eq (tgt := 187) hC dX8_send_176 (by decide) (fun h => ?_) (fun h => ?_)
        · replace hw := hw.1 h
          refine r_aload_n hC dX8_send_187 rfl ?_
          refine r_iload_n hC dX8_send_188 rfl ?_
          refine r_iconst hC dX8_send_189 ?_
          refine r_iload hC dX8_send_190 rfl ?_
          refine cl_X8_244 hC (c_X8_wait (kL K) hw) (by rw [hR]; decide) (Nat.le_of_ble_eq_true rfl) dX8_send_192 (fun s111 hq => ?_)
          clear hw
          have hw := hq
          clear hq
          refine r_aload_n hC dX8_send_195 rfl ?_
          refine r_iload_n hC dX8_send_196 rfl ?_
          refine r_bipush hC dX8_send_197 (by decide) ?_
          refine cl_X8_180 hC (c_X8_tells (kL K) hw) (by rw [hR]; decide) (Nat.le_of_ble_eq_true rfl) dX8_send_199 (fun r109 s112 hq => ?_)
          clear hw
          have hw := hq
          clear hq
          exact r_ireturn hC hM ⟨_, rfl, hw⟩ (by rw [hR]; decide) (by rw [hR]; decide) dX8_send_202
        · replace hw := hw.2 h
          refine r_aload_n hC dX8_send_179 rfl ?_
          refine r_iload_n hC dX8_send_180 rfl ?_
          refine r_bipush hC dX8_send_181 (by decide) ?_
          refine cl_X8_180 hC (c_X8_tells (kL K) hw) (by rw [hR]; decide) (Nat.le_of_ble_eq_true rfl) dX8_send_183 (fun r110 s113 hq => ?_)
          clear hw
          have hw := hq
          clear hq
          exact r_ireturn hC hM ⟨_, rfl, hw⟩ (by rw [hR]; decide) (by rw [hR]; decide) dX8_send_186
      · replace hw := hw.2 h
        refine r_aload_n hC dX8_send_167 rfl ?_
        refine r_iload_n hC dX8_send_168 rfl ?_
        refine r_iconst hC dX8_send_169 ?_
        refine cl_X8_180 hC (c_X8_tells (kL K) hw) (by rw [hR]; decide) (Nat.le_of_ble_eq_true rfl) dX8_send_170 (fun r111 s114 hq => ?_)
        clear hw
        have hw := hq
        clear hq
        exact r_ireturn hC hM ⟨_, rfl, hw⟩ (by rw [hR]; decide) (by rw [hR]; decide) dX8_send_173
    · replace hw := hw.2 h
      refine r_aload_n hC dX8_send_127 rfl ?_
      refine gf_X8_48 hC dX8_send_128 ?_
      refine r_bipush hC dX8_send_131 (by decide) ?_
      refine r_iload_n hC dX8_send_133 rfl ?_
      refine r_imul hC dX8_send_134 ?_
      refine r_iload hC dX8_send_135 rfl ?_
      refine r_iadd hC dX8_send_137 ?_
      refine r_aload_n hC dX8_send_138 rfl ?_
      refine gf_X8_23 hC dX8_send_139 ?_
      refine r_bipush hC dX8_send_142 (by decide) ?_
      refine r_iload_n hC dX8_send_144 rfl ?_
      refine r_imul hC dX8_send_145 ?_
      refine r_iload hC dX8_send_146 rfl ?_
      refine r_iadd hC dX8_send_148 ?_
      refine r_iaload hC rfl (by decide) hw.1 dX8_send_149 ?_
      replace hw := hw.2
      refine r_iastore hC rfl (by decide) hw.1 dX8_send_150 (fun s115 e9 => ?_)
      replace hw := hw.2 s115 e9
      clear e9
      refine r_iinc (l' := [_, _, _, _, _, _, _, _, _]) hC dX8_send_151 rfl rfl (by decide) rfl ?_
      refine r_goto (tgt := 120) hC dX8_send_154 (by decide) ?_
      exact J.drop2 (ih x1 x6 x7 (x8 + 1) s115 hw) ⟨rfl, rfl, rfl, rfl, rfl, trivial⟩
def wp_X8_send (x1 : Int) (x2 : Int) (x3 : Int) (x4 : Int) (x5 : Int) (σ : St) (po : Int → St → Prop) : Prop := wp_X8_isProcess x1 σ (fun r101 s101 => (nm r101 ≠ 0 → wp_X8_isFree x1 s101 (fun r102 s102 => (nm r102 ≠ 0 → (nmL x3 < nmL 1 → wp_X8_tells x1 (-4) s102 (fun r103 s103 => po r103 s103)) ∧
 (nmL 1 ≤ nmL x3 → wp_X8_in (nm x4) 0 64 s102 (fun r104 s104 => (nm r104 ≠ 0 → wp_X8_slotOf x2 0 s104 (fun r105 s105 => (nm r105 = nm (-1) → wp_X8_tells x1 (-5) s105 (fun r106 s106 => po r106 s106)) ∧
 (nm r105 ≠ nm (-1) → (0 ≤ nm r105 ∧ nm r105 < 12) ∧ (nm x4 ≤ nm (gI s105 110 33 (nm r105).toNat) → wp_X8_hasAll x1 r105 2 s105 (fun r107 s107 => (nm r107 ≠ 0 → (0 ≤ nm x1 ∧ nm x1 < 16) ∧ ∀ s108, s108 = uL s107 110 10 (nm x1).toNat x3 → (0 ≤ nm x1 ∧ nm x1 < 16) ∧ ∀ s109, s109 = uI s108 110 11 (nm x1).toNat x4 → ∃ n9, wp_X8_send_120 po n9 x1 x5 r105 0 s109) ∧
 (nm r107 = 0 → wp_X8_tells x1 (-6) s107 (fun r112 s116 => po r112 s116)))) ∧
 (nm (gI s105 110 33 (nm r105).toNat) < nm x4 → wp_X8_tells x1 (-5) s105 (fun r113 s117 => po r113 s117))))) ∧
 (nm r104 = 0 → wp_X8_tells x1 (-4) s104 (fun r114 s118 => po r114 s118))))) ∧
 (nm r102 = 0 → po (-3) s102))) ∧
 (nm r101 = 0 → po (-2) s101))
set_option maxRecDepth 100000 in
set_option maxHeartbeats 4000000 in
theorem c_X8_send (l : Launch) {x1 : Int} {x2 : Int} {x3 : Int} {x4 : Int} {x5 : Int} {σ : St} {po : Int → St → Prop} (hw : wp_X8_send x1 x2 x3 x4 x5 σ po) : MT l yX8_send cX8_send 9 (some .int) ({ frames := 3, cells := 0, slots := 0, locals := 71 } : Room) [wr 30 (some 0), wi x1, wi x2, wl x3, wi x4, wi x5] σ (PI po) := by
  refine MT_of (by decide) (Nat.le_of_ble_eq_true rfl) (fun K hL hR hC hM => ?_)
  subst hL
  unfold wp_X8_send at hw
  show J K 0 [some (wr 30 (some 0)), some (wi x1), some (wi x2), some (wl x3), none, some (wi x4), some (wi x5), none, none] [] σ 0 0
  refine r_aload_n hC dX8_send_0 rfl ?_
  refine r_iload_n hC dX8_send_1 rfl ?_
  refine cl_X8_152 hC (c_X8_isProcess (kL K) hw) (by rw [hR]; decide) (Nat.le_of_ble_eq_true rfl) dX8_send_2 (fun r101 s101 hq => ?_)
  clear hw
  have hw := hq
  clear hq
  refine r_if_ne (tgt := 11) hC dX8_send_5 (by decide) (fun h => ?_) (fun h => ?_)
  · replace hw := hw.1 h
    refine r_aload_n hC dX8_send_11 rfl ?_
    refine r_iload_n hC dX8_send_12 rfl ?_
    refine cl_X8_173 hC (c_X8_isFree (kL K) hw) (by rw [hR]; decide) (Nat.le_of_ble_eq_true rfl) dX8_send_13 (fun r102 s102 hq => ?_)
    clear hw
    have hw := hq
    clear hq
    refine r_if_ne (tgt := 22) hC dX8_send_16 (by decide) (fun h => ?_) (fun h => ?_)
    · replace hw := hw.1 h
      refine r_lload_n hC dX8_send_22 rfl ?_
      refine r_lconst hC 1 rfl dX8_send_23 ?_
      refine r_lcmp_lt (tgt := 41) hC dX8_send_24 dX8_send_25 (by decide) (fun h => ?_) (fun h => ?_)
      · replace hw := hw.1 h
        refine r_aload_n hC dX8_send_41 rfl ?_
        refine r_iload_n hC dX8_send_42 rfl ?_
        refine r_bipush hC dX8_send_43 (by decide) ?_
        refine cl_X8_180 hC (c_X8_tells (kL K) hw) (by rw [hR]; decide) (Nat.le_of_ble_eq_true rfl) dX8_send_45 (fun r103 s103 hq => ?_)
        clear hw
        have hw := hq
        clear hq
        exact r_ireturn hC hM ⟨_, rfl, hw⟩ (by rw [hR]; decide) (by rw [hR]; decide) dX8_send_48
      · replace hw := hw.2 h
        refine r_iload hC dX8_send_28 rfl ?_
        refine r_i2l hC dX8_send_30 ?_
        refine r_lconst hC 0 rfl dX8_send_31 ?_
        refine r_ldc2 hC 64 (wg 1074 (by decide +kernel) (by decide +kernel)) rfl dX8_send_32 ?_
        refine cl_X8_142 hC (c_X8_in (kL K) hw) (by rw [hR]; decide) (Nat.le_of_ble_eq_true rfl) dX8_send_35 (fun r104 s104 hq => ?_)
        clear hw
        have hw := hq
        clear hq
        refine r_if_ne (tgt := 49) hC dX8_send_38 (by decide) (fun h => ?_) (fun h => ?_)
        · replace hw := hw.1 h
          refine r_aload_n hC dX8_send_49 rfl ?_
          refine r_iload_n hC dX8_send_50 rfl ?_
          refine r_iconst hC dX8_send_51 ?_
          refine cl_X8_206 hC (c_X8_slotOf (kL K) hw) (by rw [hR]; decide) (Nat.le_of_ble_eq_true rfl) dX8_send_52 (fun r105 s105 hq => ?_)
          clear hw
          have hw := hq
          clear hq
          refine r_istore (l' := [_, _, _, _, _, _, _, _, _]) hC dX8_send_55 rfl (by decide) rfl ?_
          refine r_iload hC dX8_send_57 rfl ?_
          refine r_iconst hC dX8_send_59 ?_
          refine r_icmp_eq (tgt := 75) hC dX8_send_60 (by decide) (fun h => ?_) (fun h => ?_)
          · replace hw := hw.1 h
            refine r_aload_n hC dX8_send_75 rfl ?_
            refine r_iload_n hC dX8_send_76 rfl ?_
            refine r_bipush hC dX8_send_77 (by decide) ?_
            refine cl_X8_180 hC (c_X8_tells (kL K) hw) (by rw [hR]; decide) (Nat.le_of_ble_eq_true rfl) dX8_send_79 (fun r106 s106 hq => ?_)
            clear hw
            have hw := hq
            clear hq
            exact r_ireturn hC hM ⟨_, rfl, hw⟩ (by rw [hR]; decide) (by rw [hR]; decide) dX8_send_82
          · replace hw := hw.2 h
            refine r_iload hC dX8_send_63 rfl ?_
            refine r_aload_n hC dX8_send_65 rfl ?_
            refine gf_X8_105 hC dX8_send_66 ?_
            refine r_iload hC dX8_send_69 rfl ?_
            refine r_iaload hC rfl (by decide) hw.1 dX8_send_71 ?_
            replace hw := hw.2
            refine r_icmp_le (tgt := 83) hC dX8_send_72 (by decide) (fun h => ?_) (fun h => ?_)
            · replace hw := hw.1 h
              refine r_aload_n hC dX8_send_83 rfl ?_
              refine r_iload_n hC dX8_send_84 rfl ?_
              refine r_iload hC dX8_send_85 rfl ?_
              refine r_iconst hC dX8_send_87 ?_
              refine cl_X8_190 hC (c_X8_hasAll (kL K) hw) (by rw [hR]; decide) (Nat.le_of_ble_eq_true rfl) dX8_send_88 (fun r107 s107 hq => ?_)
              clear hw
              have hw := hq
              clear hq
              refine r_if_ne (tgt := 102) hC dX8_send_91 (by decide) (fun h => ?_) (fun h => ?_)
              · replace hw := hw.1 h
                refine r_aload_n hC dX8_send_102 rfl ?_
                refine gf_X8_39 hC dX8_send_103 ?_
                refine r_iload_n hC dX8_send_106 rfl ?_
                refine r_lload_n hC dX8_send_107 rfl ?_
                refine r_lastore hC rfl (by decide) hw.1 dX8_send_108 (fun s108 e9 => ?_)
                replace hw := hw.2 s108 e9
                clear e9
                refine r_aload_n hC dX8_send_109 rfl ?_
                refine gf_X8_42 hC dX8_send_110 ?_
                refine r_iload_n hC dX8_send_113 rfl ?_
                refine r_iload hC dX8_send_114 rfl ?_
                refine r_iastore hC rfl (by decide) hw.1 dX8_send_116 (fun s109 e9 => ?_)
                replace hw := hw.2 s109 e9
                clear e9
                refine r_iconst hC dX8_send_117 ?_
                refine r_istore (l' := [_, _, _, _, _, _, _, _, _]) hC dX8_send_118 rfl (by decide) rfl ?_
                obtain ⟨n9, hw⟩ := hw
                exact J.drop2 (j_X8_send_120 hR hC hM n9 x1 x5 r105 0 s109 hw) ⟨rfl, rfl, rfl, rfl, rfl, trivial⟩
              · replace hw := hw.2 h
                refine r_aload_n hC dX8_send_94 rfl ?_
                refine r_iload_n hC dX8_send_95 rfl ?_
                refine r_bipush hC dX8_send_96 (by decide) ?_
                refine cl_X8_180 hC (c_X8_tells (kL K) hw) (by rw [hR]; decide) (Nat.le_of_ble_eq_true rfl) dX8_send_98 (fun r112 s116 hq => ?_)
                clear hw
                have hw := hq
                clear hq
                exact r_ireturn hC hM ⟨_, rfl, hw⟩ (by rw [hR]; decide) (by rw [hR]; decide) dX8_send_101
            · replace hw := hw.2 h
              refine r_aload_n hC dX8_send_75 rfl ?_
              refine r_iload_n hC dX8_send_76 rfl ?_
              refine r_bipush hC dX8_send_77 (by decide) ?_
              refine cl_X8_180 hC (c_X8_tells (kL K) hw) (by rw [hR]; decide) (Nat.le_of_ble_eq_true rfl) dX8_send_79 (fun r113 s117 hq => ?_)
              clear hw
              have hw := hq
              clear hq
              exact r_ireturn hC hM ⟨_, rfl, hw⟩ (by rw [hR]; decide) (by rw [hR]; decide) dX8_send_82
        · replace hw := hw.2 h
          refine r_aload_n hC dX8_send_41 rfl ?_
          refine r_iload_n hC dX8_send_42 rfl ?_
          refine r_bipush hC dX8_send_43 (by decide) ?_
          refine cl_X8_180 hC (c_X8_tells (kL K) hw) (by rw [hR]; decide) (Nat.le_of_ble_eq_true rfl) dX8_send_45 (fun r114 s118 hq => ?_)
          clear hw
          have hw := hq
          clear hq
          exact r_ireturn hC hM ⟨_, rfl, hw⟩ (by rw [hR]; decide) (by rw [hR]; decide) dX8_send_48
    · replace hw := hw.2 h
      refine r_bipush hC dX8_send_19 (by decide) ?_
      exact r_ireturn hC hM ⟨_, rfl, hw⟩ (by rw [hR]; decide) (by rw [hR]; decide) dX8_send_21
  · replace hw := hw.2 h
    refine r_bipush hC dX8_send_8 (by decide) ?_
    exact r_ireturn hC hM ⟨_, rfl, hw⟩ (by rw [hR]; decide) (by rw [hR]; decide) dX8_send_10
def wp_X8_found_18 (po : Int → St → Prop) : Nat → Int → Int → Int → Int → Int → St → Prop
  | 0, _, _, _, _, _, _ => False
  | n + 1, x1, x2, x4, x5, x6, σ => (nm x6 < nm (40 * x1) → po x5 σ) ∧
 (nm (40 * x1) ≤ nm x6 → (0 ≤ nm x6 ∧ nm x6 < 480) ∧ wp_X8_wants (gL σ 110 35 (nm x6).toNat) x2 x4 σ (fun r101 s101 => (nm r101 = 0 → wp_X8_found_18 po n x1 x2 x4 x5 (x6 + (-1)) s101) ∧
 (nm r101 ≠ 0 → (nm x5 < 0 → wp_X8_found_18 po n x1 x2 x4 x6 (x6 + (-1)) s101) ∧
 (0 ≤ nm x5 → (nmL 0 ≤ nmL x2 → wp_X8_found_18 po n x1 x2 x4 x6 (x6 + (-1)) s101) ∧
 (nmL x2 < nmL 0 → (0 ≤ nm x6 ∧ nm x6 < 480) ∧ (0 ≤ nm x5 ∧ nm x5 < 480) ∧ (nmL (gL s101 110 35 (nm x5).toNat) < nmL (gL s101 110 35 (nm x6).toNat) → wp_X8_found_18 po n x1 x2 x4 x5 (x6 + (-1)) s101) ∧
 (nmL (gL s101 110 35 (nm x6).toNat) ≤ nmL (gL s101 110 35 (nm x5).toNat) → wp_X8_found_18 po n x1 x2 x4 x6 (x6 + (-1)) s101))))))
set_option maxRecDepth 100000 in
set_option maxHeartbeats 4000000 in
theorem j_X8_found_18 {K : JK} (hR : kRm K = ({ frames := 1, cells := 0, slots := 0, locals := 24 } : Room)) (hC : Cx K cX8_found 8 RX8) {po : Int → St → Prop} (hM : Mx K (some .int) (PI po)) : ∀ (n : Nat) (x1 : Int) (x2 : Int) (x4 : Int) (x5 : Int) (x6 : Int) (σ : St), wp_X8_found_18 po n x1 x2 x4 x5 x6 σ → J K 18 [some (wr 30 (some 0)), some (wi x1), some (wl x2), none, some (wi x4), some (wi x5), some (wi x6), none] [] σ 0 0 := by
  intro n
  induction n with
  | zero =>
    intro x1 x2 x4 x5 x6 σ hw
    exact False.elim hw
  | succ n ih =>
    intro x1 x2 x4 x5 x6 σ hw
    unfold wp_X8_found_18 at hw
    refine r_iload hC dX8_found_18 rfl ?_
    refine r_bipush hC dX8_found_20 (by decide) ?_
    refine r_iload_n hC dX8_found_22 rfl ?_
    refine r_imul hC dX8_found_23 ?_
    refine r_icmp_lt (tgt := 91) hC dX8_found_24 (by decide) (fun h => ?_) (fun h => ?_)
    · replace hw := hw.1 h
      refine r_iload hC dX8_found_91 rfl ?_
      exact r_ireturn hC hM ⟨_, rfl, hw⟩ (by rw [hR]; decide) (by rw [hR]; decide) dX8_found_93
    · replace hw := hw.2 h
      refine r_aload_n hC dX8_found_27 rfl ?_
      refine gf_X8_111 hC dX8_found_28 ?_
      refine r_iload hC dX8_found_31 rfl ?_
      refine r_laload hC rfl (by decide) hw.1 dX8_found_33 ?_
      replace hw := hw.2
      refine r_lload_n hC dX8_found_34 rfl ?_
      refine r_iload hC dX8_found_35 rfl ?_
      refine cl_X8_228 hC (c_X8_wants (kL K) hw) (by rw [hR]; decide) (Nat.le_of_ble_eq_true rfl) dX8_found_37 (fun r101 s101 hq => ?_)
      clear hw
      have hw := hq
      clear hq
      refine r_istore (l' := [_, _, _, _, _, _, _, _]) hC dX8_found_40 rfl (by decide) rfl ?_
      refine r_iload hC dX8_found_42 rfl ?_
      refine r_if_eq (tgt := 81) hC dX8_found_44 (by decide) (fun h => ?_) (fun h => ?_)
      · replace hw := hw.1 h
        refine r_iload hC dX8_found_81 rfl ?_
        refine r_istore (l' := [_, _, _, _, _, _, _, _]) hC dX8_found_83 rfl (by decide) rfl ?_
        refine r_iinc (l' := [_, _, _, _, _, _, _, _]) hC dX8_found_85 rfl rfl (by decide) rfl ?_
        refine r_goto (tgt := 18) hC dX8_found_88 (by decide) ?_
        exact J.drop2 (ih x1 x2 x4 x5 (x6 + (-1)) s101 hw) ⟨rfl, rfl, rfl, rfl, rfl, rfl, trivial⟩
      · replace hw := hw.2 h
        refine r_iload hC dX8_found_47 rfl ?_
        refine r_if_lt (tgt := 76) hC dX8_found_49 (by decide) (fun h => ?_) (fun h => ?_)
        · replace hw := hw.1 h
          refine r_iload hC dX8_found_76 rfl ?_
          refine r_goto (tgt := 83) hC dX8_found_78 (by decide) ?_
          refine r_istore (l' := [_, _, _, _, _, _, _, _]) hC dX8_found_83 rfl (by decide) rfl ?_
          refine r_iinc (l' := [_, _, _, _, _, _, _, _]) hC dX8_found_85 rfl rfl (by decide) rfl ?_
          refine r_goto (tgt := 18) hC dX8_found_88 (by decide) ?_
          exact J.drop2 (ih x1 x2 x4 x6 (x6 + (-1)) s101 hw) ⟨rfl, rfl, rfl, rfl, rfl, rfl, trivial⟩
        · replace hw := hw.2 h
          refine r_lload_n hC dX8_found_52 rfl ?_
          refine r_lconst hC 0 rfl dX8_found_53 ?_
          refine r_lcmp_ge (tgt := 76) hC dX8_found_54 dX8_found_55 (by decide) (fun h => ?_) (fun h => ?_)
          · replace hw := hw.1 h
            refine r_iload hC dX8_found_76 rfl ?_
            refine r_goto (tgt := 83) hC dX8_found_78 (by decide) ?_
            refine r_istore (l' := [_, _, _, _, _, _, _, _]) hC dX8_found_83 rfl (by decide) rfl ?_
            refine r_iinc (l' := [_, _, _, _, _, _, _, _]) hC dX8_found_85 rfl rfl (by decide) rfl ?_
            refine r_goto (tgt := 18) hC dX8_found_88 (by decide) ?_
            exact J.drop2 (ih x1 x2 x4 x6 (x6 + (-1)) s101 hw) ⟨rfl, rfl, rfl, rfl, rfl, rfl, trivial⟩
          · replace hw := hw.2 h
            refine r_aload_n hC dX8_found_58 rfl ?_
            refine gf_X8_111 hC dX8_found_59 ?_
            refine r_iload hC dX8_found_62 rfl ?_
            refine r_laload hC rfl (by decide) hw.1 dX8_found_64 ?_
            replace hw := hw.2
            refine r_aload_n hC dX8_found_65 rfl ?_
            refine gf_X8_111 hC dX8_found_66 ?_
            refine r_iload hC dX8_found_69 rfl ?_
            refine r_laload hC rfl (by decide) hw.1 dX8_found_71 ?_
            replace hw := hw.2
            refine r_lcmp_gt (tgt := 81) hC dX8_found_72 dX8_found_73 (by decide) (fun h => ?_) (fun h => ?_)
            · replace hw := hw.1 h
              refine r_iload hC dX8_found_81 rfl ?_
              refine r_istore (l' := [_, _, _, _, _, _, _, _]) hC dX8_found_83 rfl (by decide) rfl ?_
              refine r_iinc (l' := [_, _, _, _, _, _, _, _]) hC dX8_found_85 rfl rfl (by decide) rfl ?_
              refine r_goto (tgt := 18) hC dX8_found_88 (by decide) ?_
              exact J.drop2 (ih x1 x2 x4 x5 (x6 + (-1)) s101 hw) ⟨rfl, rfl, rfl, rfl, rfl, rfl, trivial⟩
            · replace hw := hw.2 h
              refine r_iload hC dX8_found_76 rfl ?_
              refine r_goto (tgt := 83) hC dX8_found_78 (by decide) ?_
              refine r_istore (l' := [_, _, _, _, _, _, _, _]) hC dX8_found_83 rfl (by decide) rfl ?_
              refine r_iinc (l' := [_, _, _, _, _, _, _, _]) hC dX8_found_85 rfl rfl (by decide) rfl ?_
              refine r_goto (tgt := 18) hC dX8_found_88 (by decide) ?_
              exact J.drop2 (ih x1 x2 x4 x6 (x6 + (-1)) s101 hw) ⟨rfl, rfl, rfl, rfl, rfl, rfl, trivial⟩
def wp_X8_found (x1 : Int) (x2 : Int) (x3 : Int) (σ : St) (po : Int → St → Prop) : Prop := (0 ≤ nm x1 ∧ nm x1 < 12) ∧ ∃ n9, wp_X8_found_18 po n9 x1 x2 x3 (-1) (((40 * x1) + (gI σ 110 34 (nm x1).toNat)) - 1) σ
set_option maxRecDepth 100000 in
set_option maxHeartbeats 4000000 in
theorem c_X8_found (l : Launch) {x1 : Int} {x2 : Int} {x3 : Int} {σ : St} {po : Int → St → Prop} (hw : wp_X8_found x1 x2 x3 σ po) : MT l yX8_found cX8_found 8 (some .int) ({ frames := 1, cells := 0, slots := 0, locals := 24 } : Room) [wr 30 (some 0), wi x1, wl x2, wi x3] σ (PI po) := by
  refine MT_of (by decide) (Nat.le_of_ble_eq_true rfl) (fun K hL hR hC hM => ?_)
  subst hL
  unfold wp_X8_found at hw
  show J K 0 [some (wr 30 (some 0)), some (wi x1), some (wl x2), none, some (wi x3), none, none, none] [] σ 0 0
  refine r_iconst hC dX8_found_0 ?_
  refine r_istore (l' := [_, _, _, _, _, _, _, _]) hC dX8_found_1 rfl (by decide) rfl ?_
  refine r_bipush hC dX8_found_3 (by decide) ?_
  refine r_iload_n hC dX8_found_5 rfl ?_
  refine r_imul hC dX8_found_6 ?_
  refine r_aload_n hC dX8_found_7 rfl ?_
  refine gf_X8_108 hC dX8_found_8 ?_
  refine r_iload_n hC dX8_found_11 rfl ?_
  refine r_iaload hC rfl (by decide) hw.1 dX8_found_12 ?_
  replace hw := hw.2
  refine r_iadd hC dX8_found_13 ?_
  refine r_iconst hC dX8_found_14 ?_
  refine r_isub hC dX8_found_15 ?_
  refine r_istore (l' := [_, _, _, _, _, _, _, _]) hC dX8_found_16 rfl (by decide) rfl ?_
  obtain ⟨n9, hw⟩ := hw
  exact J.drop2 (j_X8_found_18 hR hC hM n9 x1 x2 x3 (-1) (((40 * x1) + (gI σ 110 34 (nm x1).toNat)) - 1) σ hw) ⟨rfl, rfl, rfl, rfl, rfl, rfl, trivial⟩
def wp_X8_take_317 (po : Int → St → Prop) (X264 : Int → Int → Int → St → Prop) : Nat → Int → Int → Int → Int → St → Prop
  | 0, _, _, _, _, _ => False
  | n + 1, x7, x9, x10, x11, σ => (nm 64 ≤ nm x11 → X264 x7 x9 (x10 + 1) σ) ∧
 (nm x11 < nm 64 → (0 ≤ nm (((64 * x10) + 64) + x11) ∧ nm (((64 * x10) + 64) + x11) < 30720) ∧ (0 ≤ nm ((64 * x10) + x11) ∧ nm ((64 * x10) + x11) < 30720) ∧ ∀ s115, s115 = uI σ 110 37 (nm ((64 * x10) + x11)).toNat (gI σ 110 37 (nm (((64 * x10) + 64) + x11)).toNat) → wp_X8_take_317 po X264 n x7 x9 x10 (x11 + 1) s115)
set_option maxRecDepth 100000 in
set_option maxHeartbeats 4000000 in
theorem j_X8_take_317 {K : JK} (hR : kRm K = ({ frames := 4, cells := 0, slots := 0, locals := 93 } : Room)) (hC : Cx K cX8_take 12 RX8) {po : Int → St → Prop} (hM : Mx K (some .int) (PI po)) {X264 : Int → Int → Int → St → Prop} (hX264 : ∀ (x7 : Int) (x9 : Int) (x10 : Int) (σ : St), X264 x7 x9 x10 σ → J K 264 [some (wr 30 (some 0)), none, none, none, none, none, none, some (wi x7), none, some (wi x9), some (wi x10), none] [] σ 0 0) : ∀ (n : Nat) (x7 : Int) (x9 : Int) (x10 : Int) (x11 : Int) (σ : St), wp_X8_take_317 po X264 n x7 x9 x10 x11 σ → J K 317 [some (wr 30 (some 0)), none, none, none, none, none, none, some (wi x7), none, some (wi x9), some (wi x10), some (wi x11)] [] σ 0 0 := by
  intro n
  induction n with
  | zero =>
    intro x7 x9 x10 x11 σ hw
    exact False.elim hw
  | succ n ih =>
    intro x7 x9 x10 x11 σ hw
    unfold wp_X8_take_317 at hw
    refine r_iload hC dX8_take_317 rfl ?_
    refine r_bipush hC dX8_take_319 (by decide) ?_
    refine r_icmp_ge (tgt := 359) hC dX8_take_321 (by decide) (fun h => ?_) (fun h => ?_)
    · replace hw := hw.1 h
      refine r_iinc (l' := [_, _, _, _, _, _, _, _, _, _, _, _]) hC dX8_take_359 rfl rfl (by decide) rfl ?_
      refine r_goto (tgt := 264) hC dX8_take_362 (by decide) ?_
      exact J.drop2 (hX264 x7 x9 (x10 + 1) σ hw) ⟨rfl, rfl, rfl, rfl, trivial⟩
    · replace hw := hw.2 h
      refine r_aload_n hC dX8_take_324 rfl ?_
      refine gf_X8_117 hC dX8_take_325 ?_
      refine r_bipush hC dX8_take_328 (by decide) ?_
      refine r_iload hC dX8_take_330 rfl ?_
      refine r_imul hC dX8_take_332 ?_
      refine r_iload hC dX8_take_333 rfl ?_
      refine r_iadd hC dX8_take_335 ?_
      refine r_aload_n hC dX8_take_336 rfl ?_
      refine gf_X8_117 hC dX8_take_337 ?_
      refine r_bipush hC dX8_take_340 (by decide) ?_
      refine r_iload hC dX8_take_342 rfl ?_
      refine r_imul hC dX8_take_344 ?_
      refine r_bipush hC dX8_take_345 (by decide) ?_
      refine r_iadd hC dX8_take_347 ?_
      refine r_iload hC dX8_take_348 rfl ?_
      refine r_iadd hC dX8_take_350 ?_
      refine r_iaload hC rfl (by decide) hw.1 dX8_take_351 ?_
      replace hw := hw.2
      refine r_iastore hC rfl (by decide) hw.1 dX8_take_352 (fun s115 e9 => ?_)
      replace hw := hw.2 s115 e9
      clear e9
      refine r_iinc (l' := [_, _, _, _, _, _, _, _, _, _, _, _]) hC dX8_take_353 rfl rfl (by decide) rfl ?_
      refine r_goto (tgt := 317) hC dX8_take_356 (by decide) ?_
      exact J.drop2 (ih x7 x9 x10 (x11 + 1) s115 hw) ⟨rfl, rfl, rfl, rfl, rfl, trivial⟩
def wp_X8_take_264 (po : Int → St → Prop) : Nat → Int → Int → Int → St → Prop
  | 0, _, _, _, _ => False
  | n + 1, x7, x9, x10, σ => (0 ≤ nm x7 ∧ nm x7 < 12) ∧ (nm ((40 * x7) + (gI σ 110 34 (nm x7).toNat)) ≤ nm x10 → wp_X8_lookAtSenders  σ (fun s112 => po x9 s112)) ∧
 (nm x10 < nm ((40 * x7) + (gI σ 110 34 (nm x7).toNat)) → (0 ≤ nm (x10 + 1) ∧ nm (x10 + 1) < 480) ∧ (0 ≤ nm x10 ∧ nm x10 < 480) ∧ ∀ s113, s113 = uL σ 110 35 (nm x10).toNat (gL σ 110 35 (nm (x10 + 1)).toNat) → (0 ≤ nm (x10 + 1) ∧ nm (x10 + 1) < 480) ∧ (0 ≤ nm x10 ∧ nm x10 < 480) ∧ ∀ s114, s114 = uI s113 110 36 (nm x10).toNat (gI s113 110 36 (nm (x10 + 1)).toNat) → ∃ n9, wp_X8_take_317 po (fun x7 x9 x10 s9 => wp_X8_take_264 po n x7 x9 x10 s9) n9 x7 x9 x10 0 s114)
set_option maxRecDepth 100000 in
set_option maxHeartbeats 4000000 in
theorem j_X8_take_264 {K : JK} (hR : kRm K = ({ frames := 4, cells := 0, slots := 0, locals := 93 } : Room)) (hC : Cx K cX8_take 12 RX8) {po : Int → St → Prop} (hM : Mx K (some .int) (PI po)) : ∀ (n : Nat) (x7 : Int) (x9 : Int) (x10 : Int) (σ : St), wp_X8_take_264 po n x7 x9 x10 σ → J K 264 [some (wr 30 (some 0)), none, none, none, none, none, none, some (wi x7), none, some (wi x9), some (wi x10), none] [] σ 0 0 := by
  intro n
  induction n with
  | zero =>
    intro x7 x9 x10 σ hw
    exact False.elim hw
  | succ n ih =>
    intro x7 x9 x10 σ hw
    unfold wp_X8_take_264 at hw
    refine r_iload hC dX8_take_264 rfl ?_
    refine r_bipush hC dX8_take_266 (by decide) ?_
    refine r_iload hC dX8_take_268 rfl ?_
    refine r_imul hC dX8_take_270 ?_
    refine r_aload_n hC dX8_take_271 rfl ?_
    refine gf_X8_108 hC dX8_take_272 ?_
    refine r_iload hC dX8_take_275 rfl ?_
    refine r_iaload hC rfl (by decide) hw.1 dX8_take_277 ?_
    replace hw := hw.2
    refine r_iadd hC dX8_take_278 ?_
    refine r_icmp_ge (tgt := 365) hC dX8_take_279 (by decide) (fun h => ?_) (fun h => ?_)
    · replace hw := hw.1 h
      refine r_aload_n hC dX8_take_365 rfl ?_
      refine cl_X8_213 hC (c_X8_lookAtSenders (kL K) hw) (by rw [hR]; decide) (Nat.le_of_ble_eq_true rfl) dX8_take_366 (fun s112 hq => ?_)
      clear hw
      have hw := hq
      clear hq
      refine r_iload hC dX8_take_369 rfl ?_
      exact r_ireturn hC hM ⟨_, rfl, hw⟩ (by rw [hR]; decide) (by rw [hR]; decide) dX8_take_371
    · replace hw := hw.2 h
      refine r_aload_n hC dX8_take_282 rfl ?_
      refine gf_X8_111 hC dX8_take_283 ?_
      refine r_iload hC dX8_take_286 rfl ?_
      refine r_aload_n hC dX8_take_288 rfl ?_
      refine gf_X8_111 hC dX8_take_289 ?_
      refine r_iload hC dX8_take_292 rfl ?_
      refine r_iconst hC dX8_take_294 ?_
      refine r_iadd hC dX8_take_295 ?_
      refine r_laload hC rfl (by decide) hw.1 dX8_take_296 ?_
      replace hw := hw.2
      refine r_lastore hC rfl (by decide) hw.1 dX8_take_297 (fun s113 e9 => ?_)
      replace hw := hw.2 s113 e9
      clear e9
      refine r_aload_n hC dX8_take_298 rfl ?_
      refine gf_X8_114 hC dX8_take_299 ?_
      refine r_iload hC dX8_take_302 rfl ?_
      refine r_aload_n hC dX8_take_304 rfl ?_
      refine gf_X8_114 hC dX8_take_305 ?_
      refine r_iload hC dX8_take_308 rfl ?_
      refine r_iconst hC dX8_take_310 ?_
      refine r_iadd hC dX8_take_311 ?_
      refine r_iaload hC rfl (by decide) hw.1 dX8_take_312 ?_
      replace hw := hw.2
      refine r_iastore hC rfl (by decide) hw.1 dX8_take_313 (fun s114 e9 => ?_)
      replace hw := hw.2 s114 e9
      clear e9
      refine r_iconst hC dX8_take_314 ?_
      refine r_istore (l' := [_, _, _, _, _, _, _, _, _, _, _, _]) hC dX8_take_315 rfl (by decide) rfl ?_
      obtain ⟨n9, hw⟩ := hw
      exact J.drop2 (j_X8_take_317 hR hC hM ih n9 x7 x9 x10 0 s114 hw) ⟨rfl, rfl, rfl, rfl, rfl, trivial⟩
def wp_X8_take_195 (po : Int → St → Prop) (x1 : Int) (x3 : Int) (x7 : Int) (x8 : Int) (σ : St) : Prop := (0 ≤ nm x8 ∧ nm x8 < 480) ∧ (0 ≤ nm x8 ∧ nm x8 < 480) ∧ wp_X8_give x1 (gL σ 110 35 (nm x8).toNat) (gI σ 110 36 (nm x8).toNat) 31 (some 37) (64 * x8) x3 σ (fun s109 => (0 ≤ nm x1 ∧ nm x1 < 16) ∧ (0 ≤ nm x7 ∧ nm x7 < 12) ∧ (0 ≤ nm x8 ∧ nm x8 < 480) ∧ (0 ≤ nm x7 ∧ nm x7 < 12) ∧ ∀ s110, s110 = uI s109 110 32 (nm x7).toNat ((gI s109 110 32 (nm x7).toNat) - (gI s109 110 36 (nm x8).toNat)) → (0 ≤ nm x7 ∧ nm x7 < 12) ∧ (0 ≤ nm x7 ∧ nm x7 < 12) ∧ ∀ s111, s111 = uI s110 110 34 (nm x7).toNat ((gI s110 110 34 (nm x7).toNat) - 1) → ∃ n9, wp_X8_take_264 po n9 x7 (gI s109 110 4 (nm x1).toNat) x8 s111)
set_option maxRecDepth 100000 in
set_option maxHeartbeats 4000000 in
theorem j_X8_take_195 {K : JK} (hR : kRm K = ({ frames := 4, cells := 0, slots := 0, locals := 93 } : Room)) (hC : Cx K cX8_take 12 RX8) {po : Int → St → Prop} (hM : Mx K (some .int) (PI po)) : ∀ (x1 : Int) (x3 : Int) (x7 : Int) (x8 : Int) (σ : St), wp_X8_take_195 po x1 x3 x7 x8 σ → J K 195 [some (wr 30 (some 0)), some (wi x1), none, some (wi x3), none, none, none, some (wi x7), some (wi x8), none, none, none] [] σ 0 0 := by
  intro x1 x3 x7 x8 σ hw
  unfold wp_X8_take_195 at hw
  refine r_aload_n hC dX8_take_195 rfl ?_
  refine r_iload_n hC dX8_take_196 rfl ?_
  refine r_aload_n hC dX8_take_197 rfl ?_
  refine gf_X8_111 hC dX8_take_198 ?_
  refine r_iload hC dX8_take_201 rfl ?_
  refine r_laload hC rfl (by decide) hw.1 dX8_take_203 ?_
  replace hw := hw.2
  refine r_aload_n hC dX8_take_204 rfl ?_
  refine gf_X8_114 hC dX8_take_205 ?_
  refine r_iload hC dX8_take_208 rfl ?_
  refine r_iaload hC rfl (by decide) hw.1 dX8_take_210 ?_
  replace hw := hw.2
  refine r_aload_n hC dX8_take_211 rfl ?_
  refine gf_X8_117 hC dX8_take_212 ?_
  refine r_bipush hC dX8_take_215 (by decide) ?_
  refine r_iload hC dX8_take_217 rfl ?_
  refine r_imul hC dX8_take_219 ?_
  refine r_iload_n hC dX8_take_220 rfl ?_
  refine cl_X8_232 hC (c_X8_give (kL K) hw) (by rw [hR]; decide) (Nat.le_of_ble_eq_true rfl) dX8_take_221 (fun s109 hq => ?_)
  clear hw
  have hw := hq
  clear hq
  refine r_aload_n hC dX8_take_224 rfl ?_
  refine gf_X8_20 hC dX8_take_225 ?_
  refine r_iload_n hC dX8_take_228 rfl ?_
  refine r_iaload hC rfl (by decide) hw.1 dX8_take_229 ?_
  replace hw := hw.2
  refine r_istore (l' := [_, _, _, _, _, _, _, _, _, _, _, _]) hC dX8_take_230 rfl (by decide) rfl ?_
  refine r_aload_n hC dX8_take_232 rfl ?_
  refine gf_X8_102 hC dX8_take_233 ?_
  refine r_iload hC dX8_take_236 rfl ?_
  refine r_dup2 hC dX8_take_238 rfl rfl ?_
  refine r_iaload hC rfl (by decide) hw.1 dX8_take_239 ?_
  replace hw := hw.2
  refine r_aload_n hC dX8_take_240 rfl ?_
  refine gf_X8_114 hC dX8_take_241 ?_
  refine r_iload hC dX8_take_244 rfl ?_
  refine r_iaload hC rfl (by decide) hw.1 dX8_take_246 ?_
  replace hw := hw.2
  refine r_isub hC dX8_take_247 ?_
  refine r_iastore hC rfl (by decide) hw.1 dX8_take_248 (fun s110 e9 => ?_)
  replace hw := hw.2 s110 e9
  clear e9
  refine r_aload_n hC dX8_take_249 rfl ?_
  refine gf_X8_108 hC dX8_take_250 ?_
  refine r_iload hC dX8_take_253 rfl ?_
  refine r_dup2 hC dX8_take_255 rfl rfl ?_
  refine r_iaload hC rfl (by decide) hw.1 dX8_take_256 ?_
  replace hw := hw.2
  refine r_iconst hC dX8_take_257 ?_
  refine r_isub hC dX8_take_258 ?_
  refine r_iastore hC rfl (by decide) hw.1 dX8_take_259 (fun s111 e9 => ?_)
  replace hw := hw.2 s111 e9
  clear e9
  refine r_iload hC dX8_take_260 rfl ?_
  refine r_istore (l' := [_, _, _, _, _, _, _, _, _, _, _, _]) hC dX8_take_262 rfl (by decide) rfl ?_
  obtain ⟨n9, hw⟩ := hw
  exact J.drop2 (j_X8_take_264 hR hC hM n9 x7 (gI s109 110 4 (nm x1).toNat) x8 s111 hw) ⟨rfl, rfl, rfl, rfl, trivial⟩
def wp_X8_take (x1 : Int) (x2 : Int) (x3 : Int) (x4 : Int) (x5 : Int) (σ : St) (po : Int → St → Prop) : Prop := wp_X8_isProcess x1 σ (fun r101 s101 => (nm r101 ≠ 0 → wp_X8_isFree x1 s101 (fun r102 s102 => (nm r102 ≠ 0 → wp_X8_in (nm x3) 0 64 s102 (fun r103 s103 => (nm r103 = 0 → wp_X8_tells x1 (-4) s103 (fun r104 s104 => po r104 s104)) ∧
 (nm r103 ≠ 0 → wp_X8_in (nm x5) 0 7 s103 (fun r105 s105 => (nm r105 ≠ 0 → wp_X8_slotOf x2 0 s105 (fun r106 s106 => (nm r106 ≠ nm (-1) → wp_X8_hasAll x1 r106 4 s106 (fun r107 s107 => (nm r107 ≠ 0 → wp_X8_found r106 x4 x5 s107 (fun r108 s108 => (nm r108 ≠ nm (-1) → (0 ≤ nm r108 ∧ nm r108 < 480) ∧ (nm (gI s108 110 36 (nm r108).toNat) ≤ nm x3 → wp_X8_take_195 po x1 x3 r106 r108 s108) ∧
 (nm x3 < nm (gI s108 110 36 (nm r108).toNat) → (nm (zand x5 2) ≠ 0 → wp_X8_take_195 po x1 x3 r106 r108 s108) ∧
 (nm (zand x5 2) = 0 → wp_X8_tells x1 (-13) s108 (fun r109 s116 => po r109 s116)))) ∧
 (nm r108 = nm (-1) → (nm (zand x5 1) ≠ nm 1 → (0 ≤ nm x1 ∧ nm x1 < 16) ∧ ∀ s117, s117 = uL s108 110 10 (nm x1).toNat x4 → (0 ≤ nm x1 ∧ nm x1 < 16) ∧ ∀ s118, s118 = uI s117 110 11 (nm x1).toNat x3 → (0 ≤ nm x1 ∧ nm x1 < 16) ∧ ∀ s119, s119 = uI s118 110 12 (nm x1).toNat x5 → wp_X8_wait x1 2 r106 s119 (fun s120 => wp_X8_tells x1 (-10) s120 (fun r110 s121 => po r110 s121))) ∧
 (nm (zand x5 1) = nm 1 → wp_X8_tells x1 (-12) s108 (fun r111 s122 => po r111 s122))))) ∧
 (nm r107 = 0 → wp_X8_tells x1 (-6) s107 (fun r112 s123 => po r112 s123)))) ∧
 (nm r106 = nm (-1) → wp_X8_tells x1 (-5) s106 (fun r113 s124 => po r113 s124)))) ∧
 (nm r105 = 0 → wp_X8_tells x1 (-4) s105 (fun r114 s125 => po r114 s125)))))) ∧
 (nm r102 = 0 → po (-3) s102))) ∧
 (nm r101 = 0 → po (-2) s101))
set_option maxRecDepth 100000 in
set_option maxHeartbeats 4000000 in
theorem c_X8_take (l : Launch) {x1 : Int} {x2 : Int} {x3 : Int} {x4 : Int} {x5 : Int} {σ : St} {po : Int → St → Prop} (hw : wp_X8_take x1 x2 x3 x4 x5 σ po) : MT l yX8_take cX8_take 12 (some .int) ({ frames := 4, cells := 0, slots := 0, locals := 93 } : Room) [wr 30 (some 0), wi x1, wi x2, wi x3, wl x4, wi x5] σ (PI po) := by
  refine MT_of (by decide) (Nat.le_of_ble_eq_true rfl) (fun K hL hR hC hM => ?_)
  subst hL
  unfold wp_X8_take at hw
  show J K 0 [some (wr 30 (some 0)), some (wi x1), some (wi x2), some (wi x3), some (wl x4), none, some (wi x5), none, none, none, none, none] [] σ 0 0
  refine r_aload_n hC dX8_take_0 rfl ?_
  refine r_iload_n hC dX8_take_1 rfl ?_
  refine cl_X8_152 hC (c_X8_isProcess (kL K) hw) (by rw [hR]; decide) (Nat.le_of_ble_eq_true rfl) dX8_take_2 (fun r101 s101 hq => ?_)
  clear hw
  have hw := hq
  clear hq
  refine r_if_ne (tgt := 11) hC dX8_take_5 (by decide) (fun h => ?_) (fun h => ?_)
  · replace hw := hw.1 h
    refine r_aload_n hC dX8_take_11 rfl ?_
    refine r_iload_n hC dX8_take_12 rfl ?_
    refine cl_X8_173 hC (c_X8_isFree (kL K) hw) (by rw [hR]; decide) (Nat.le_of_ble_eq_true rfl) dX8_take_13 (fun r102 s102 hq => ?_)
    clear hw
    have hw := hq
    clear hq
    refine r_if_ne (tgt := 22) hC dX8_take_16 (by decide) (fun h => ?_) (fun h => ?_)
    · replace hw := hw.1 h
      refine r_iload_n hC dX8_take_22 rfl ?_
      refine r_i2l hC dX8_take_23 ?_
      refine r_lconst hC 0 rfl dX8_take_24 ?_
      refine r_ldc2 hC 64 (wg 1074 (by decide +kernel) (by decide +kernel)) rfl dX8_take_25 ?_
      refine cl_X8_142 hC (c_X8_in (kL K) hw) (by rw [hR]; decide) (Nat.le_of_ble_eq_true rfl) dX8_take_28 (fun r103 s103 hq => ?_)
      clear hw
      have hw := hq
      clear hq
      refine r_if_eq (tgt := 47) hC dX8_take_31 (by decide) (fun h => ?_) (fun h => ?_)
      · replace hw := hw.1 h
        refine r_aload_n hC dX8_take_47 rfl ?_
        refine r_iload_n hC dX8_take_48 rfl ?_
        refine r_bipush hC dX8_take_49 (by decide) ?_
        refine cl_X8_180 hC (c_X8_tells (kL K) hw) (by rw [hR]; decide) (Nat.le_of_ble_eq_true rfl) dX8_take_51 (fun r104 s104 hq => ?_)
        clear hw
        have hw := hq
        clear hq
        exact r_ireturn hC hM ⟨_, rfl, hw⟩ (by rw [hR]; decide) (by rw [hR]; decide) dX8_take_54
      · replace hw := hw.2 h
        refine r_iload hC dX8_take_34 rfl ?_
        refine r_i2l hC dX8_take_36 ?_
        refine r_lconst hC 0 rfl dX8_take_37 ?_
        refine r_ldc2 hC 7 (wg 1083 (by decide +kernel) (by decide +kernel)) rfl dX8_take_38 ?_
        refine cl_X8_142 hC (c_X8_in (kL K) hw) (by rw [hR]; decide) (Nat.le_of_ble_eq_true rfl) dX8_take_41 (fun r105 s105 hq => ?_)
        clear hw
        have hw := hq
        clear hq
        refine r_if_ne (tgt := 55) hC dX8_take_44 (by decide) (fun h => ?_) (fun h => ?_)
        · replace hw := hw.1 h
          refine r_aload_n hC dX8_take_55 rfl ?_
          refine r_iload_n hC dX8_take_56 rfl ?_
          refine r_iconst hC dX8_take_57 ?_
          refine cl_X8_206 hC (c_X8_slotOf (kL K) hw) (by rw [hR]; decide) (Nat.le_of_ble_eq_true rfl) dX8_take_58 (fun r106 s106 hq => ?_)
          clear hw
          have hw := hq
          clear hq
          refine r_istore (l' := [_, _, _, _, _, _, _, _, _, _, _, _]) hC dX8_take_61 rfl (by decide) rfl ?_
          refine r_iload hC dX8_take_63 rfl ?_
          refine r_iconst hC dX8_take_65 ?_
          refine r_icmp_ne (tgt := 77) hC dX8_take_66 (by decide) (fun h => ?_) (fun h => ?_)
          · replace hw := hw.1 h
            refine r_aload_n hC dX8_take_77 rfl ?_
            refine r_iload_n hC dX8_take_78 rfl ?_
            refine r_iload hC dX8_take_79 rfl ?_
            refine r_iconst hC dX8_take_81 ?_
            refine cl_X8_190 hC (c_X8_hasAll (kL K) hw) (by rw [hR]; decide) (Nat.le_of_ble_eq_true rfl) dX8_take_82 (fun r107 s107 hq => ?_)
            clear hw
            have hw := hq
            clear hq
            refine r_if_ne (tgt := 96) hC dX8_take_85 (by decide) (fun h => ?_) (fun h => ?_)
            · replace hw := hw.1 h
              refine r_aload_n hC dX8_take_96 rfl ?_
              refine r_iload hC dX8_take_97 rfl ?_
              refine r_lload hC dX8_take_99 rfl ?_
              refine r_iload hC dX8_take_101 rfl ?_
              refine cl_X8_250 hC (c_X8_found (kL K) hw) (by rw [hR]; decide) (Nat.le_of_ble_eq_true rfl) dX8_take_103 (fun r108 s108 hq => ?_)
              clear hw
              have hw := hq
              clear hq
              refine r_istore (l' := [_, _, _, _, _, _, _, _, _, _, _, _]) hC dX8_take_106 rfl (by decide) rfl ?_
              refine r_iload hC dX8_take_108 rfl ?_
              refine r_iconst hC dX8_take_110 ?_
              refine r_icmp_ne (tgt := 169) hC dX8_take_111 (by decide) (fun h => ?_) (fun h => ?_)
              · replace hw := hw.1 h
                refine r_aload_n hC dX8_take_169 rfl ?_
                refine gf_X8_114 hC dX8_take_170 ?_
                refine r_iload hC dX8_take_173 rfl ?_
                refine r_iaload hC rfl (by decide) hw.1 dX8_take_175 ?_
                replace hw := hw.2
                refine r_iload_n hC dX8_take_176 rfl ?_
                refine r_icmp_le (tgt := 195) hC dX8_take_177 (by decide) (fun h => ?_) (fun h => ?_)
                · replace hw := hw.1 h
                  exact J.drop2 (j_X8_take_195 hR hC hM x1 x3 r106 r108 s108 hw) ⟨rfl, rfl, rfl, rfl, rfl, trivial⟩
                · replace hw := hw.2 h
                  refine r_iload hC dX8_take_180 rfl ?_
                  refine r_iconst hC dX8_take_182 ?_
                  refine r_iand hC dX8_take_183 ?_
                  refine r_if_ne (tgt := 195) hC dX8_take_184 (by decide) (fun h => ?_) (fun h => ?_)
                  · replace hw := hw.1 h
                    exact J.drop2 (j_X8_take_195 hR hC hM x1 x3 r106 r108 s108 hw) ⟨rfl, rfl, rfl, rfl, rfl, trivial⟩
                  · replace hw := hw.2 h
                    refine r_aload_n hC dX8_take_187 rfl ?_
                    refine r_iload_n hC dX8_take_188 rfl ?_
                    refine r_bipush hC dX8_take_189 (by decide) ?_
                    refine cl_X8_180 hC (c_X8_tells (kL K) hw) (by rw [hR]; decide) (Nat.le_of_ble_eq_true rfl) dX8_take_191 (fun r109 s116 hq => ?_)
                    clear hw
                    have hw := hq
                    clear hq
                    exact r_ireturn hC hM ⟨_, rfl, hw⟩ (by rw [hR]; decide) (by rw [hR]; decide) dX8_take_194
              · replace hw := hw.2 h
                refine r_iload hC dX8_take_114 rfl ?_
                refine r_iconst hC dX8_take_116 ?_
                refine r_iand hC dX8_take_117 ?_
                refine r_iconst hC dX8_take_118 ?_
                refine r_icmp_ne (tgt := 130) hC dX8_take_119 (by decide) (fun h => ?_) (fun h => ?_)
                · replace hw := hw.1 h
                  refine r_aload_n hC dX8_take_130 rfl ?_
                  refine gf_X8_39 hC dX8_take_131 ?_
                  refine r_iload_n hC dX8_take_134 rfl ?_
                  refine r_lload hC dX8_take_135 rfl ?_
                  refine r_lastore hC rfl (by decide) hw.1 dX8_take_137 (fun s117 e9 => ?_)
                  replace hw := hw.2 s117 e9
                  clear e9
                  refine r_aload_n hC dX8_take_138 rfl ?_
                  refine gf_X8_42 hC dX8_take_139 ?_
                  refine r_iload_n hC dX8_take_142 rfl ?_
                  refine r_iload_n hC dX8_take_143 rfl ?_
                  refine r_iastore hC rfl (by decide) hw.1 dX8_take_144 (fun s118 e9 => ?_)
                  replace hw := hw.2 s118 e9
                  clear e9
                  refine r_aload_n hC dX8_take_145 rfl ?_
                  refine gf_X8_45 hC dX8_take_146 ?_
                  refine r_iload_n hC dX8_take_149 rfl ?_
                  refine r_iload hC dX8_take_150 rfl ?_
                  refine r_iastore hC rfl (by decide) hw.1 dX8_take_152 (fun s119 e9 => ?_)
                  replace hw := hw.2 s119 e9
                  clear e9
                  refine r_aload_n hC dX8_take_153 rfl ?_
                  refine r_iload_n hC dX8_take_154 rfl ?_
                  refine r_iconst hC dX8_take_155 ?_
                  refine r_iload hC dX8_take_156 rfl ?_
                  refine cl_X8_244 hC (c_X8_wait (kL K) hw) (by rw [hR]; decide) (Nat.le_of_ble_eq_true rfl) dX8_take_158 (fun s120 hq => ?_)
                  clear hw
                  have hw := hq
                  clear hq
                  refine r_aload_n hC dX8_take_161 rfl ?_
                  refine r_iload_n hC dX8_take_162 rfl ?_
                  refine r_bipush hC dX8_take_163 (by decide) ?_
                  refine cl_X8_180 hC (c_X8_tells (kL K) hw) (by rw [hR]; decide) (Nat.le_of_ble_eq_true rfl) dX8_take_165 (fun r110 s121 hq => ?_)
                  clear hw
                  have hw := hq
                  clear hq
                  exact r_ireturn hC hM ⟨_, rfl, hw⟩ (by rw [hR]; decide) (by rw [hR]; decide) dX8_take_168
                · replace hw := hw.2 h
                  refine r_aload_n hC dX8_take_122 rfl ?_
                  refine r_iload_n hC dX8_take_123 rfl ?_
                  refine r_bipush hC dX8_take_124 (by decide) ?_
                  refine cl_X8_180 hC (c_X8_tells (kL K) hw) (by rw [hR]; decide) (Nat.le_of_ble_eq_true rfl) dX8_take_126 (fun r111 s122 hq => ?_)
                  clear hw
                  have hw := hq
                  clear hq
                  exact r_ireturn hC hM ⟨_, rfl, hw⟩ (by rw [hR]; decide) (by rw [hR]; decide) dX8_take_129
            · replace hw := hw.2 h
              refine r_aload_n hC dX8_take_88 rfl ?_
              refine r_iload_n hC dX8_take_89 rfl ?_
              refine r_bipush hC dX8_take_90 (by decide) ?_
              refine cl_X8_180 hC (c_X8_tells (kL K) hw) (by rw [hR]; decide) (Nat.le_of_ble_eq_true rfl) dX8_take_92 (fun r112 s123 hq => ?_)
              clear hw
              have hw := hq
              clear hq
              exact r_ireturn hC hM ⟨_, rfl, hw⟩ (by rw [hR]; decide) (by rw [hR]; decide) dX8_take_95
          · replace hw := hw.2 h
            refine r_aload_n hC dX8_take_69 rfl ?_
            refine r_iload_n hC dX8_take_70 rfl ?_
            refine r_bipush hC dX8_take_71 (by decide) ?_
            refine cl_X8_180 hC (c_X8_tells (kL K) hw) (by rw [hR]; decide) (Nat.le_of_ble_eq_true rfl) dX8_take_73 (fun r113 s124 hq => ?_)
            clear hw
            have hw := hq
            clear hq
            exact r_ireturn hC hM ⟨_, rfl, hw⟩ (by rw [hR]; decide) (by rw [hR]; decide) dX8_take_76
        · replace hw := hw.2 h
          refine r_aload_n hC dX8_take_47 rfl ?_
          refine r_iload_n hC dX8_take_48 rfl ?_
          refine r_bipush hC dX8_take_49 (by decide) ?_
          refine cl_X8_180 hC (c_X8_tells (kL K) hw) (by rw [hR]; decide) (Nat.le_of_ble_eq_true rfl) dX8_take_51 (fun r114 s125 hq => ?_)
          clear hw
          have hw := hq
          clear hq
          exact r_ireturn hC hM ⟨_, rfl, hw⟩ (by rw [hR]; decide) (by rw [hR]; decide) dX8_take_54
    · replace hw := hw.2 h
      refine r_bipush hC dX8_take_19 (by decide) ?_
      exact r_ireturn hC hM ⟨_, rfl, hw⟩ (by rw [hR]; decide) (by rw [hR]; decide) dX8_take_21
  · replace hw := hw.2 h
    refine r_bipush hC dX8_take_8 (by decide) ?_
    exact r_ireturn hC hM ⟨_, rfl, hw⟩ (by rw [hR]; decide) (by rw [hR]; decide) dX8_take_10
def wp_X8_step (x1 : Int) (x2 : Int) (x3 : Int) (x4 : Int) (σ : St) (po : Int → St → Prop) : Prop := wp_X8_isProcess x1 σ (fun r101 s101 => (nm r101 ≠ 0 → wp_X8_isFree x1 s101 (fun r102 s102 => (nm r102 ≠ 0 → wp_X8_in (nm x2) 0 7 s102 (fun r103 s103 => (nm r103 = 0 → po (-4) s103) ∧
 (nm r103 ≠ 0 → wp_X8_in (nm x3) (-32767) 32767 s103 (fun r104 s104 => (nm r104 = 0 → po (-4) s104) ∧
 (nm r104 ≠ 0 → wp_X8_in (nm x4) 0 3 s104 (fun r105 s105 => (nm r105 ≠ 0 → (0 ≤ nm x1 ∧ nm x1 < 16) ∧ (nm (gI s105 110 16 (nm x1).toNat) ≠ nm 8 → (0 ≤ nm x1 ∧ nm x1 < 16) ∧ (0 ≤ nm ((8 * x1) + (gI s105 110 16 (nm x1).toNat)) ∧ nm ((8 * x1) + (gI s105 110 16 (nm x1).toNat)) < 128) ∧ ∀ s106, s106 = uI s105 110 17 (nm ((8 * x1) + (gI s105 110 16 (nm x1).toNat))).toNat x2 → (0 ≤ nm ((8 * x1) + (gI s105 110 16 (nm x1).toNat)) ∧ nm ((8 * x1) + (gI s105 110 16 (nm x1).toNat)) < 128) ∧ ∀ s107, s107 = uI s106 110 18 (nm ((8 * x1) + (gI s105 110 16 (nm x1).toNat))).toNat x3 → (0 ≤ nm ((8 * x1) + (gI s105 110 16 (nm x1).toNat)) ∧ nm ((8 * x1) + (gI s105 110 16 (nm x1).toNat)) < 128) ∧ ∀ s108, s108 = uI s107 110 19 (nm ((8 * x1) + (gI s105 110 16 (nm x1).toNat))).toNat x4 → (0 ≤ nm x1 ∧ nm x1 < 16) ∧ (0 ≤ nm x1 ∧ nm x1 < 16) ∧ ∀ s109, s109 = uI s108 110 16 (nm x1).toNat ((gI s108 110 16 (nm x1).toNat) + 1) → (0 ≤ nm x1 ∧ nm x1 < 16) ∧ po (gI s109 110 16 (nm x1).toNat) s109) ∧
 (nm (gI s105 110 16 (nm x1).toNat) = nm 8 → po (-9) s105)) ∧
 (nm r105 = 0 → po (-4) s105))))))) ∧
 (nm r102 = 0 → po (-3) s102))) ∧
 (nm r101 = 0 → po (-2) s101))
set_option maxRecDepth 100000 in
set_option maxHeartbeats 4000000 in
theorem c_X8_step (l : Launch) {x1 : Int} {x2 : Int} {x3 : Int} {x4 : Int} {σ : St} {po : Int → St → Prop} (hw : wp_X8_step x1 x2 x3 x4 σ po) : MT l yX8_step cX8_step 6 (some .int) ({ frames := 2, cells := 0, slots := 0, locals := 46 } : Room) [wr 30 (some 0), wi x1, wi x2, wi x3, wi x4] σ (PI po) := by
  refine MT_of (by decide) (Nat.le_of_ble_eq_true rfl) (fun K hL hR hC hM => ?_)
  subst hL
  unfold wp_X8_step at hw
  show J K 0 [some (wr 30 (some 0)), some (wi x1), some (wi x2), some (wi x3), some (wi x4), none] [] σ 0 0
  refine r_aload_n hC dX8_step_0 rfl ?_
  refine r_iload_n hC dX8_step_1 rfl ?_
  refine cl_X8_152 hC (c_X8_isProcess (kL K) hw) (by rw [hR]; decide) (Nat.le_of_ble_eq_true rfl) dX8_step_2 (fun r101 s101 hq => ?_)
  clear hw
  have hw := hq
  clear hq
  refine r_if_ne (tgt := 11) hC dX8_step_5 (by decide) (fun h => ?_) (fun h => ?_)
  · replace hw := hw.1 h
    refine r_aload_n hC dX8_step_11 rfl ?_
    refine r_iload_n hC dX8_step_12 rfl ?_
    refine cl_X8_173 hC (c_X8_isFree (kL K) hw) (by rw [hR]; decide) (Nat.le_of_ble_eq_true rfl) dX8_step_13 (fun r102 s102 hq => ?_)
    clear hw
    have hw := hq
    clear hq
    refine r_if_ne (tgt := 22) hC dX8_step_16 (by decide) (fun h => ?_) (fun h => ?_)
    · replace hw := hw.1 h
      refine r_iload_n hC dX8_step_22 rfl ?_
      refine r_i2l hC dX8_step_23 ?_
      refine r_lconst hC 0 rfl dX8_step_24 ?_
      refine r_ldc2 hC 7 (wg 1083 (by decide +kernel) (by decide +kernel)) rfl dX8_step_25 ?_
      refine cl_X8_142 hC (c_X8_in (kL K) hw) (by rw [hR]; decide) (Nat.le_of_ble_eq_true rfl) dX8_step_28 (fun r103 s103 hq => ?_)
      clear hw
      have hw := hq
      clear hq
      refine r_if_eq (tgt := 61) hC dX8_step_31 (by decide) (fun h => ?_) (fun h => ?_)
      · replace hw := hw.1 h
        refine r_bipush hC dX8_step_61 (by decide) ?_
        exact r_ireturn hC hM ⟨_, rfl, hw⟩ (by rw [hR]; decide) (by rw [hR]; decide) dX8_step_63
      · replace hw := hw.2 h
        refine r_iload_n hC dX8_step_34 rfl ?_
        refine r_i2l hC dX8_step_35 ?_
        refine r_ldc2 hC (-32767) (wg 954 (by decide +kernel) (by decide +kernel)) rfl dX8_step_36 ?_
        refine r_ldc2 hC 32767 (wg 955 (by decide +kernel) (by decide +kernel)) rfl dX8_step_39 ?_
        refine cl_X8_142 hC (c_X8_in (kL K) hw) (by rw [hR]; decide) (Nat.le_of_ble_eq_true rfl) dX8_step_42 (fun r104 s104 hq => ?_)
        clear hw
        have hw := hq
        clear hq
        refine r_if_eq (tgt := 61) hC dX8_step_45 (by decide) (fun h => ?_) (fun h => ?_)
        · replace hw := hw.1 h
          refine r_bipush hC dX8_step_61 (by decide) ?_
          exact r_ireturn hC hM ⟨_, rfl, hw⟩ (by rw [hR]; decide) (by rw [hR]; decide) dX8_step_63
        · replace hw := hw.2 h
          refine r_iload hC dX8_step_48 rfl ?_
          refine r_i2l hC dX8_step_50 ?_
          refine r_lconst hC 0 rfl dX8_step_51 ?_
          refine r_ldc2 hC 3 (wg 1092 (by decide +kernel) (by decide +kernel)) rfl dX8_step_52 ?_
          refine cl_X8_142 hC (c_X8_in (kL K) hw) (by rw [hR]; decide) (Nat.le_of_ble_eq_true rfl) dX8_step_55 (fun r105 s105 hq => ?_)
          clear hw
          have hw := hq
          clear hq
          refine r_if_ne (tgt := 64) hC dX8_step_58 (by decide) (fun h => ?_) (fun h => ?_)
          · replace hw := hw.1 h
            refine r_aload_n hC dX8_step_64 rfl ?_
            refine gf_X8_54 hC dX8_step_65 ?_
            refine r_iload_n hC dX8_step_68 rfl ?_
            refine r_iaload hC rfl (by decide) hw.1 dX8_step_69 ?_
            replace hw := hw.2
            refine r_bipush hC dX8_step_70 (by decide) ?_
            refine r_icmp_ne (tgt := 78) hC dX8_step_72 (by decide) (fun h => ?_) (fun h => ?_)
            · replace hw := hw.1 h
              refine r_bipush hC dX8_step_78 (by decide) ?_
              refine r_iload_n hC dX8_step_80 rfl ?_
              refine r_imul hC dX8_step_81 ?_
              refine r_aload_n hC dX8_step_82 rfl ?_
              refine gf_X8_54 hC dX8_step_83 ?_
              refine r_iload_n hC dX8_step_86 rfl ?_
              refine r_iaload hC rfl (by decide) hw.1 dX8_step_87 ?_
              replace hw := hw.2
              refine r_iadd hC dX8_step_88 ?_
              refine r_istore (l' := [_, _, _, _, _, _]) hC dX8_step_89 rfl (by decide) rfl ?_
              refine r_aload_n hC dX8_step_91 rfl ?_
              refine gf_X8_57 hC dX8_step_92 ?_
              refine r_iload hC dX8_step_95 rfl ?_
              refine r_iload_n hC dX8_step_97 rfl ?_
              refine r_iastore hC rfl (by decide) hw.1 dX8_step_98 (fun s106 e9 => ?_)
              replace hw := hw.2 s106 e9
              clear e9
              refine r_aload_n hC dX8_step_99 rfl ?_
              refine gf_X8_60 hC dX8_step_100 ?_
              refine r_iload hC dX8_step_103 rfl ?_
              refine r_iload_n hC dX8_step_105 rfl ?_
              refine r_iastore hC rfl (by decide) hw.1 dX8_step_106 (fun s107 e9 => ?_)
              replace hw := hw.2 s107 e9
              clear e9
              refine r_aload_n hC dX8_step_107 rfl ?_
              refine gf_X8_63 hC dX8_step_108 ?_
              refine r_iload hC dX8_step_111 rfl ?_
              refine r_iload hC dX8_step_113 rfl ?_
              refine r_iastore hC rfl (by decide) hw.1 dX8_step_115 (fun s108 e9 => ?_)
              replace hw := hw.2 s108 e9
              clear e9
              refine r_aload_n hC dX8_step_116 rfl ?_
              refine gf_X8_54 hC dX8_step_117 ?_
              refine r_iload_n hC dX8_step_120 rfl ?_
              refine r_dup2 hC dX8_step_121 rfl rfl ?_
              refine r_iaload hC rfl (by decide) hw.1 dX8_step_122 ?_
              replace hw := hw.2
              refine r_iconst hC dX8_step_123 ?_
              refine r_iadd hC dX8_step_124 ?_
              refine r_iastore hC rfl (by decide) hw.1 dX8_step_125 (fun s109 e9 => ?_)
              replace hw := hw.2 s109 e9
              clear e9
              refine r_aload_n hC dX8_step_126 rfl ?_
              refine gf_X8_54 hC dX8_step_127 ?_
              refine r_iload_n hC dX8_step_130 rfl ?_
              refine r_iaload hC rfl (by decide) hw.1 dX8_step_131 ?_
              replace hw := hw.2
              exact r_ireturn hC hM ⟨_, rfl, hw⟩ (by rw [hR]; decide) (by rw [hR]; decide) dX8_step_132
            · replace hw := hw.2 h
              refine r_bipush hC dX8_step_75 (by decide) ?_
              exact r_ireturn hC hM ⟨_, rfl, hw⟩ (by rw [hR]; decide) (by rw [hR]; decide) dX8_step_77
          · replace hw := hw.2 h
            refine r_bipush hC dX8_step_61 (by decide) ?_
            exact r_ireturn hC hM ⟨_, rfl, hw⟩ (by rw [hR]; decide) (by rw [hR]; decide) dX8_step_63
    · replace hw := hw.2 h
      refine r_bipush hC dX8_step_19 (by decide) ?_
      exact r_ireturn hC hM ⟨_, rfl, hw⟩ (by rw [hR]; decide) (by rw [hR]; decide) dX8_step_21
  · replace hw := hw.2 h
    refine r_bipush hC dX8_step_8 (by decide) ?_
    exact r_ireturn hC hM ⟨_, rfl, hw⟩ (by rw [hR]; decide) (by rw [hR]; decide) dX8_step_10
def wp_X8_steps_217 (po : Int → St → Prop) (x1 : Int) (x4 : Int) (y0 : Int) (y1 : Int) (y2 : Int) (σ : St) : Prop := wp_X8_hasAll y2 y1 y0 σ (fun r104 s106 => (nm r104 ≠ 0 → wp_X8_tried x1 (x4 - 12) s106 (fun r105 s107 => (nm r105 ≠ nm 3 → (nm r105 ≠ nm 2 → (0 ≤ nm x1 ∧ nm x1 < 16) ∧ ∀ s108, s108 = uI s107 110 4 (nm x1).toNat 0 → (nm r105 ≠ nm 1 → po 0 s108) ∧
 (nm r105 = nm 1 → wp_X8_serve (x4 - 12) s108 (fun s109 => po 0 s109))) ∧
 (nm r105 = nm 2 → (0 ≤ nm x1 ∧ nm x1 < 16) ∧ (0 ≤ nm ((8 * x1) + (gI s107 110 14 (nm x1).toNat)) ∧ nm ((8 * x1) + (gI s107 110 14 (nm x1).toNat)) < 128) ∧ (nm (zand (gI s107 110 23 (nm ((8 * x1) + (gI s107 110 14 (nm x1).toNat))).toNat) 1) ≠ nm 1 → wp_X8_wait x1 3 (x4 - 12) s107 (fun s110 => wp_X8_tells x1 (-10) s110 (fun r106 s111 => po r106 s111))) ∧
 (nm (zand (gI s107 110 23 (nm ((8 * x1) + (gI s107 110 14 (nm x1).toNat))).toNat) 1) = nm 1 → wp_X8_tells x1 (-11) s107 (fun r107 s112 => po r107 s112)))) ∧
 (nm r105 = nm 3 → wp_X8_tells x1 (-15) s107 (fun r108 s113 => po r108 s113)))) ∧
 (nm r104 = 0 → wp_X8_tells x1 (-6) s106 (fun r109 s114 => po r109 s114)))
set_option maxRecDepth 100000 in
set_option maxHeartbeats 4000000 in
theorem j_X8_steps_217 {K : JK} (hR : kRm K = ({ frames := 3, cells := 0, slots := 0, locals := 75 } : Room)) (hC : Cx K cX8_steps 9 RX8) {po : Int → St → Prop} (hM : Mx K (some .int) (PI po)) : ∀ (x1 : Int) (x4 : Int) (y0 : Int) (y1 : Int) (y2 : Int) (σ : St), wp_X8_steps_217 po x1 x4 y0 y1 y2 σ → J K 217 [some (wr 30 (some 0)), some (wi x1), none, none, some (wi x4), none, none, none, none] [wi y0, wi y1, wi y2, wr 30 (some 0)] σ 0 0 := by
  intro x1 x4 y0 y1 y2 σ hw
  unfold wp_X8_steps_217 at hw
  refine cl_X8_190 hC (c_X8_hasAll (kL K) hw) (by rw [hR]; decide) (Nat.le_of_ble_eq_true rfl) dX8_steps_217 (fun r104 s106 hq => ?_)
  clear hw
  have hw := hq
  clear hq
  refine r_if_ne (tgt := 231) hC dX8_steps_220 (by decide) (fun h => ?_) (fun h => ?_)
  · replace hw := hw.1 h
    refine r_aload_n hC dX8_steps_231 rfl ?_
    refine r_iload_n hC dX8_steps_232 rfl ?_
    refine r_iload hC dX8_steps_233 rfl ?_
    refine r_bipush hC dX8_steps_235 (by decide) ?_
    refine r_isub hC dX8_steps_237 ?_
    refine cl_X8_260 hC (c_X8_tried (kL K) hw) (by rw [hR]; decide) (Nat.le_of_ble_eq_true rfl) dX8_steps_238 (fun r105 s107 hq => ?_)
    clear hw
    have hw := hq
    clear hq
    refine r_istore (l' := [_, _, _, _, _, _, _, _, _]) hC dX8_steps_241 rfl (by decide) rfl ?_
    refine r_iload hC dX8_steps_243 rfl ?_
    refine r_iconst hC dX8_steps_245 ?_
    refine r_icmp_ne (tgt := 257) hC dX8_steps_246 (by decide) (fun h => ?_) (fun h => ?_)
    · replace hw := hw.1 h
      refine r_iload hC dX8_steps_257 rfl ?_
      refine r_iconst hC dX8_steps_259 ?_
      refine r_icmp_ne (tgt := 312) hC dX8_steps_260 (by decide) (fun h => ?_) (fun h => ?_)
      · replace hw := hw.1 h
        refine r_aload_n hC dX8_steps_312 rfl ?_
        refine gf_X8_20 hC dX8_steps_313 ?_
        refine r_iload_n hC dX8_steps_316 rfl ?_
        refine r_iconst hC dX8_steps_317 ?_
        refine r_iastore hC rfl (by decide) hw.1 dX8_steps_318 (fun s108 e9 => ?_)
        replace hw := hw.2 s108 e9
        clear e9
        refine r_iload hC dX8_steps_319 rfl ?_
        refine r_iconst hC dX8_steps_321 ?_
        refine r_icmp_ne (tgt := 334) hC dX8_steps_322 (by decide) (fun h => ?_) (fun h => ?_)
        · replace hw := hw.1 h
          refine r_iconst hC dX8_steps_334 ?_
          exact r_ireturn hC hM ⟨_, rfl, hw⟩ (by rw [hR]; decide) (by rw [hR]; decide) dX8_steps_335
        · replace hw := hw.2 h
          refine r_aload_n hC dX8_steps_325 rfl ?_
          refine r_iload hC dX8_steps_326 rfl ?_
          refine r_bipush hC dX8_steps_328 (by decide) ?_
          refine r_isub hC dX8_steps_330 ?_
          refine cl_X8_160 hC (c_X8_serve (kL K) hw) (by rw [hR]; decide) (Nat.le_of_ble_eq_true rfl) dX8_steps_331 (fun s109 hq => ?_)
          clear hw
          have hw := hq
          clear hq
          refine r_iconst hC dX8_steps_334 ?_
          exact r_ireturn hC hM ⟨_, rfl, hw⟩ (by rw [hR]; decide) (by rw [hR]; decide) dX8_steps_335
      · replace hw := hw.2 h
        refine r_aload_n hC dX8_steps_263 rfl ?_
        refine gf_X8_75 hC dX8_steps_264 ?_
        refine r_bipush hC dX8_steps_267 (by decide) ?_
        refine r_iload_n hC dX8_steps_269 rfl ?_
        refine r_imul hC dX8_steps_270 ?_
        refine r_aload_n hC dX8_steps_271 rfl ?_
        refine gf_X8_51 hC dX8_steps_272 ?_
        refine r_iload_n hC dX8_steps_275 rfl ?_
        refine r_iaload hC rfl (by decide) hw.1 dX8_steps_276 ?_
        replace hw := hw.2
        refine r_iadd hC dX8_steps_277 ?_
        refine r_iaload hC rfl (by decide) hw.1 dX8_steps_278 ?_
        replace hw := hw.2
        refine r_iconst hC dX8_steps_279 ?_
        refine r_iand hC dX8_steps_280 ?_
        refine r_iconst hC dX8_steps_281 ?_
        refine r_icmp_ne (tgt := 293) hC dX8_steps_282 (by decide) (fun h => ?_) (fun h => ?_)
        · replace hw := hw.1 h
          refine r_aload_n hC dX8_steps_293 rfl ?_
          refine r_iload_n hC dX8_steps_294 rfl ?_
          refine r_iconst hC dX8_steps_295 ?_
          refine r_iload hC dX8_steps_296 rfl ?_
          refine r_bipush hC dX8_steps_298 (by decide) ?_
          refine r_isub hC dX8_steps_300 ?_
          refine cl_X8_244 hC (c_X8_wait (kL K) hw) (by rw [hR]; decide) (Nat.le_of_ble_eq_true rfl) dX8_steps_301 (fun s110 hq => ?_)
          clear hw
          have hw := hq
          clear hq
          refine r_aload_n hC dX8_steps_304 rfl ?_
          refine r_iload_n hC dX8_steps_305 rfl ?_
          refine r_bipush hC dX8_steps_306 (by decide) ?_
          refine cl_X8_180 hC (c_X8_tells (kL K) hw) (by rw [hR]; decide) (Nat.le_of_ble_eq_true rfl) dX8_steps_308 (fun r106 s111 hq => ?_)
          clear hw
          have hw := hq
          clear hq
          exact r_ireturn hC hM ⟨_, rfl, hw⟩ (by rw [hR]; decide) (by rw [hR]; decide) dX8_steps_311
        · replace hw := hw.2 h
          refine r_aload_n hC dX8_steps_285 rfl ?_
          refine r_iload_n hC dX8_steps_286 rfl ?_
          refine r_bipush hC dX8_steps_287 (by decide) ?_
          refine cl_X8_180 hC (c_X8_tells (kL K) hw) (by rw [hR]; decide) (Nat.le_of_ble_eq_true rfl) dX8_steps_289 (fun r107 s112 hq => ?_)
          clear hw
          have hw := hq
          clear hq
          exact r_ireturn hC hM ⟨_, rfl, hw⟩ (by rw [hR]; decide) (by rw [hR]; decide) dX8_steps_292
    · replace hw := hw.2 h
      refine r_aload_n hC dX8_steps_249 rfl ?_
      refine r_iload_n hC dX8_steps_250 rfl ?_
      refine r_bipush hC dX8_steps_251 (by decide) ?_
      refine cl_X8_180 hC (c_X8_tells (kL K) hw) (by rw [hR]; decide) (Nat.le_of_ble_eq_true rfl) dX8_steps_253 (fun r108 s113 hq => ?_)
      clear hw
      have hw := hq
      clear hq
      exact r_ireturn hC hM ⟨_, rfl, hw⟩ (by rw [hR]; decide) (by rw [hR]; decide) dX8_steps_256
  · replace hw := hw.2 h
    refine r_aload_n hC dX8_steps_223 rfl ?_
    refine r_iload_n hC dX8_steps_224 rfl ?_
    refine r_bipush hC dX8_steps_225 (by decide) ?_
    refine cl_X8_180 hC (c_X8_tells (kL K) hw) (by rw [hR]; decide) (Nat.le_of_ble_eq_true rfl) dX8_steps_227 (fun r109 s114 hq => ?_)
    clear hw
    have hw := hq
    clear hq
    exact r_ireturn hC hM ⟨_, rfl, hw⟩ (by rw [hR]; decide) (by rw [hR]; decide) dX8_steps_230
def wp_X8_steps_155 (po : Int → St → Prop) (X68 : Int → Int → Int → Int → Int → Int → St → Prop) (x1 : Int) (x3 : Int) (x4 : Int) (x6 : Int) (x7 : Int) (x8 : Int) (y0 : Int) (σ : St) : Prop := (0 ≤ nm x8 ∧ nm x8 < 128) ∧ (nm (gI σ 110 22 (nm x8).toNat) = 0 → X68 x1 x3 x4 y0 (zor x6 0) (x7 + 1) σ) ∧
 (nm (gI σ 110 22 (nm x8).toNat) ≠ 0 → X68 x1 x3 x4 y0 (zor x6 2) (x7 + 1) σ)
set_option maxRecDepth 100000 in
set_option maxHeartbeats 4000000 in
theorem j_X8_steps_155 {K : JK} (hR : kRm K = ({ frames := 3, cells := 0, slots := 0, locals := 75 } : Room)) (hC : Cx K cX8_steps 9 RX8) {po : Int → St → Prop} (hM : Mx K (some .int) (PI po)) {X68 : Int → Int → Int → Int → Int → Int → St → Prop} (hX68 : ∀ (x1 : Int) (x3 : Int) (x4 : Int) (x5 : Int) (x6 : Int) (x7 : Int) (σ : St), X68 x1 x3 x4 x5 x6 x7 σ → J K 68 [some (wr 30 (some 0)), some (wi x1), none, some (wi x3), some (wi x4), some (wi x5), some (wi x6), some (wi x7), none] [] σ 0 0) : ∀ (x1 : Int) (x3 : Int) (x4 : Int) (x6 : Int) (x7 : Int) (x8 : Int) (y0 : Int) (σ : St), wp_X8_steps_155 po X68 x1 x3 x4 x6 x7 x8 y0 σ → J K 155 [some (wr 30 (some 0)), some (wi x1), none, some (wi x3), some (wi x4), none, some (wi x6), some (wi x7), some (wi x8)] [wi y0] σ 0 0 := by
  intro x1 x3 x4 x6 x7 x8 y0 σ hw
  unfold wp_X8_steps_155 at hw
  refine r_istore (l' := [_, _, _, _, _, _, _, _, _]) hC dX8_steps_155 rfl (by decide) rfl ?_
  refine r_iload hC dX8_steps_157 rfl ?_
  refine r_aload_n hC dX8_steps_159 rfl ?_
  refine gf_X8_72 hC dX8_steps_160 ?_
  refine r_iload hC dX8_steps_163 rfl ?_
  refine r_iaload hC rfl (by decide) hw.1 dX8_steps_165 ?_
  replace hw := hw.2
  refine r_if_eq (tgt := 173) hC dX8_steps_166 (by decide) (fun h => ?_) (fun h => ?_)
  · replace hw := hw.1 h
    refine r_iconst hC dX8_steps_173 ?_
    refine r_ior hC dX8_steps_174 ?_
    refine r_istore (l' := [_, _, _, _, _, _, _, _, _]) hC dX8_steps_175 rfl (by decide) rfl ?_
    refine r_iinc (l' := [_, _, _, _, _, _, _, _, _]) hC dX8_steps_177 rfl rfl (by decide) rfl ?_
    refine r_goto (tgt := 68) hC dX8_steps_180 (by decide) ?_
    exact J.drop2 (hX68 x1 x3 x4 y0 (zor x6 0) (x7 + 1) σ hw) ⟨rfl, rfl, rfl, rfl, rfl, rfl, rfl, trivial⟩
  · replace hw := hw.2 h
    refine r_iconst hC dX8_steps_169 ?_
    refine r_goto (tgt := 174) hC dX8_steps_170 (by decide) ?_
    refine r_ior hC dX8_steps_174 ?_
    refine r_istore (l' := [_, _, _, _, _, _, _, _, _]) hC dX8_steps_175 rfl (by decide) rfl ?_
    refine r_iinc (l' := [_, _, _, _, _, _, _, _, _]) hC dX8_steps_177 rfl rfl (by decide) rfl ?_
    refine r_goto (tgt := 68) hC dX8_steps_180 (by decide) ?_
    exact J.drop2 (hX68 x1 x3 x4 y0 (zor x6 2) (x7 + 1) σ hw) ⟨rfl, rfl, rfl, rfl, rfl, rfl, rfl, trivial⟩
def wp_X8_steps_68 (po : Int → St → Prop) : Nat → Int → Int → Int → Int → Int → Int → St → Prop
  | 0, _, _, _, _, _, _, _ => False
  | n + 1, x1, x3, x4, x5, x6, x7, σ => (nm x3 ≤ nm x7 → (0 ≤ nm x1 ∧ nm x1 < 16) ∧ ∀ s105, s105 = uI σ 110 20 (nm x1).toNat x3 → (nm x5 ≠ 0 → (nm x6 ≠ 0 → wp_X8_steps_217 po x1 x4 2 x4 x1 s105) ∧
 (nm x6 = 0 → wp_X8_steps_217 po x1 x4 4 x4 x1 s105)) ∧
 (nm x5 = 0 → wp_X8_tells x1 (-5) s105 (fun r110 s115 => po r110 s115))) ∧
 (nm x7 < nm x3 → (0 ≤ nm ((8 * x1) + x7) ∧ nm ((8 * x1) + x7) < 128) ∧ (0 ≤ nm ((8 * x1) + x7) ∧ nm ((8 * x1) + x7) < 128) ∧ ∀ s116, s116 = uI σ 110 21 (nm ((8 * x1) + x7)).toNat (gI σ 110 17 (nm ((8 * x1) + x7)).toNat) → (0 ≤ nm ((8 * x1) + x7) ∧ nm ((8 * x1) + x7) < 128) ∧ (0 ≤ nm ((8 * x1) + x7) ∧ nm ((8 * x1) + x7) < 128) ∧ ∀ s117, s117 = uI s116 110 22 (nm ((8 * x1) + x7)).toNat (gI s116 110 18 (nm ((8 * x1) + x7)).toNat) → (0 ≤ nm ((8 * x1) + x7) ∧ nm ((8 * x1) + x7) < 128) ∧ (0 ≤ nm ((8 * x1) + x7) ∧ nm ((8 * x1) + x7) < 128) ∧ ∀ s118, s118 = uI s117 110 23 (nm ((8 * x1) + x7)).toNat (gI s117 110 19 (nm ((8 * x1) + x7)).toNat) → (nm x5 = 0 → wp_X8_steps_155 po (fun x1 x3 x4 x5 x6 x7 s9 => wp_X8_steps_68 po n x1 x3 x4 x5 x6 x7 s9) x1 x3 x4 x6 x7 ((8 * x1) + x7) 0 s118) ∧
 (nm x5 ≠ 0 → (0 ≤ nm ((8 * x1) + x7) ∧ nm ((8 * x1) + x7) < 128) ∧ (0 ≤ nm (x4 - 12) ∧ nm (x4 - 12) < 12) ∧ (nm (gI s118 110 38 (nm (x4 - 12)).toNat) ≤ nm (gI s118 110 21 (nm ((8 * x1) + x7)).toNat) → wp_X8_steps_155 po (fun x1 x3 x4 x5 x6 x7 s9 => wp_X8_steps_68 po n x1 x3 x4 x5 x6 x7 s9) x1 x3 x4 x6 x7 ((8 * x1) + x7) 0 s118) ∧
 (nm (gI s118 110 21 (nm ((8 * x1) + x7)).toNat) < nm (gI s118 110 38 (nm (x4 - 12)).toNat) → wp_X8_steps_155 po (fun x1 x3 x4 x5 x6 x7 s9 => wp_X8_steps_68 po n x1 x3 x4 x5 x6 x7 s9) x1 x3 x4 x6 x7 ((8 * x1) + x7) 1 s118)))
set_option maxRecDepth 100000 in
set_option maxHeartbeats 4000000 in
theorem j_X8_steps_68 {K : JK} (hR : kRm K = ({ frames := 3, cells := 0, slots := 0, locals := 75 } : Room)) (hC : Cx K cX8_steps 9 RX8) {po : Int → St → Prop} (hM : Mx K (some .int) (PI po)) : ∀ (n : Nat) (x1 : Int) (x3 : Int) (x4 : Int) (x5 : Int) (x6 : Int) (x7 : Int) (σ : St), wp_X8_steps_68 po n x1 x3 x4 x5 x6 x7 σ → J K 68 [some (wr 30 (some 0)), some (wi x1), none, some (wi x3), some (wi x4), some (wi x5), some (wi x6), some (wi x7), none] [] σ 0 0 := by
  intro n
  induction n with
  | zero =>
    intro x1 x3 x4 x5 x6 x7 σ hw
    exact False.elim hw
  | succ n ih =>
    intro x1 x3 x4 x5 x6 x7 σ hw
    unfold wp_X8_steps_68 at hw
    refine r_iload hC dX8_steps_68 rfl ?_
    refine r_iload_n hC dX8_steps_70 rfl ?_
    refine r_icmp_ge (tgt := 183) hC dX8_steps_71 (by decide) (fun h => ?_) (fun h => ?_)
    · replace hw := hw.1 h
      refine r_aload_n hC dX8_steps_183 rfl ?_
      refine gf_X8_66 hC dX8_steps_184 ?_
      refine r_iload_n hC dX8_steps_187 rfl ?_
      refine r_iload_n hC dX8_steps_188 rfl ?_
      refine r_iastore hC rfl (by decide) hw.1 dX8_steps_189 (fun s105 e9 => ?_)
      replace hw := hw.2 s105 e9
      clear e9
      refine r_iload hC dX8_steps_190 rfl ?_
      refine r_if_ne (tgt := 203) hC dX8_steps_192 (by decide) (fun h => ?_) (fun h => ?_)
      · replace hw := hw.1 h
        refine r_aload_n hC dX8_steps_203 rfl ?_
        refine r_iload_n hC dX8_steps_204 rfl ?_
        refine r_iload hC dX8_steps_205 rfl ?_
        refine r_iload hC dX8_steps_207 rfl ?_
        refine r_if_ne (tgt := 216) hC dX8_steps_209 (by decide) (fun h => ?_) (fun h => ?_)
        · replace hw := hw.1 h
          refine r_iconst hC dX8_steps_216 ?_
          exact J.drop2 (j_X8_steps_217 hR hC hM x1 x4 2 x4 x1 s105 hw) ⟨rfl, rfl, rfl, trivial⟩
        · replace hw := hw.2 h
          refine r_iconst hC dX8_steps_212 ?_
          refine r_goto (tgt := 217) hC dX8_steps_213 (by decide) ?_
          exact J.drop2 (j_X8_steps_217 hR hC hM x1 x4 4 x4 x1 s105 hw) ⟨rfl, rfl, rfl, trivial⟩
      · replace hw := hw.2 h
        refine r_aload_n hC dX8_steps_195 rfl ?_
        refine r_iload_n hC dX8_steps_196 rfl ?_
        refine r_bipush hC dX8_steps_197 (by decide) ?_
        refine cl_X8_180 hC (c_X8_tells (kL K) hw) (by rw [hR]; decide) (Nat.le_of_ble_eq_true rfl) dX8_steps_199 (fun r110 s115 hq => ?_)
        clear hw
        have hw := hq
        clear hq
        exact r_ireturn hC hM ⟨_, rfl, hw⟩ (by rw [hR]; decide) (by rw [hR]; decide) dX8_steps_202
    · replace hw := hw.2 h
      refine r_bipush hC dX8_steps_74 (by decide) ?_
      refine r_iload_n hC dX8_steps_76 rfl ?_
      refine r_imul hC dX8_steps_77 ?_
      refine r_iload hC dX8_steps_78 rfl ?_
      refine r_iadd hC dX8_steps_80 ?_
      refine r_istore (l' := [_, _, _, _, _, _, _, _, _]) hC dX8_steps_81 rfl (by decide) rfl ?_
      refine r_aload_n hC dX8_steps_83 rfl ?_
      refine gf_X8_69 hC dX8_steps_84 ?_
      refine r_iload hC dX8_steps_87 rfl ?_
      refine r_aload_n hC dX8_steps_89 rfl ?_
      refine gf_X8_57 hC dX8_steps_90 ?_
      refine r_iload hC dX8_steps_93 rfl ?_
      refine r_iaload hC rfl (by decide) hw.1 dX8_steps_95 ?_
      replace hw := hw.2
      refine r_iastore hC rfl (by decide) hw.1 dX8_steps_96 (fun s116 e9 => ?_)
      replace hw := hw.2 s116 e9
      clear e9
      refine r_aload_n hC dX8_steps_97 rfl ?_
      refine gf_X8_72 hC dX8_steps_98 ?_
      refine r_iload hC dX8_steps_101 rfl ?_
      refine r_aload_n hC dX8_steps_103 rfl ?_
      refine gf_X8_60 hC dX8_steps_104 ?_
      refine r_iload hC dX8_steps_107 rfl ?_
      refine r_iaload hC rfl (by decide) hw.1 dX8_steps_109 ?_
      replace hw := hw.2
      refine r_iastore hC rfl (by decide) hw.1 dX8_steps_110 (fun s117 e9 => ?_)
      replace hw := hw.2 s117 e9
      clear e9
      refine r_aload_n hC dX8_steps_111 rfl ?_
      refine gf_X8_75 hC dX8_steps_112 ?_
      refine r_iload hC dX8_steps_115 rfl ?_
      refine r_aload_n hC dX8_steps_117 rfl ?_
      refine gf_X8_63 hC dX8_steps_118 ?_
      refine r_iload hC dX8_steps_121 rfl ?_
      refine r_iaload hC rfl (by decide) hw.1 dX8_steps_123 ?_
      replace hw := hw.2
      refine r_iastore hC rfl (by decide) hw.1 dX8_steps_124 (fun s118 e9 => ?_)
      replace hw := hw.2 s118 e9
      clear e9
      refine r_iload hC dX8_steps_125 rfl ?_
      refine r_if_eq (tgt := 154) hC dX8_steps_127 (by decide) (fun h => ?_) (fun h => ?_)
      · replace hw := hw.1 h
        refine r_iconst hC dX8_steps_154 ?_
        exact J.drop2 (j_X8_steps_155 hR hC hM ih x1 x3 x4 x6 x7 ((8 * x1) + x7) 0 s118 hw) ⟨rfl, rfl, rfl, rfl, rfl, rfl, rfl, trivial⟩
      · replace hw := hw.2 h
        refine r_aload_n hC dX8_steps_130 rfl ?_
        refine gf_X8_69 hC dX8_steps_131 ?_
        refine r_iload hC dX8_steps_134 rfl ?_
        refine r_iaload hC rfl (by decide) hw.1 dX8_steps_136 ?_
        replace hw := hw.2
        refine r_aload_n hC dX8_steps_137 rfl ?_
        refine gf_X8_120 hC dX8_steps_138 ?_
        refine r_iload hC dX8_steps_141 rfl ?_
        refine r_bipush hC dX8_steps_143 (by decide) ?_
        refine r_isub hC dX8_steps_145 ?_
        refine r_iaload hC rfl (by decide) hw.1 dX8_steps_146 ?_
        replace hw := hw.2
        refine r_icmp_ge (tgt := 154) hC dX8_steps_147 (by decide) (fun h => ?_) (fun h => ?_)
        · replace hw := hw.1 h
          refine r_iconst hC dX8_steps_154 ?_
          exact J.drop2 (j_X8_steps_155 hR hC hM ih x1 x3 x4 x6 x7 ((8 * x1) + x7) 0 s118 hw) ⟨rfl, rfl, rfl, rfl, rfl, rfl, rfl, trivial⟩
        · replace hw := hw.2 h
          refine r_iconst hC dX8_steps_150 ?_
          refine r_goto (tgt := 155) hC dX8_steps_151 (by decide) ?_
          exact J.drop2 (j_X8_steps_155 hR hC hM ih x1 x3 x4 x6 x7 ((8 * x1) + x7) 1 s118 hw) ⟨rfl, rfl, rfl, rfl, rfl, rfl, rfl, trivial⟩
def wp_X8_steps (x1 : Int) (x2 : Int) (σ : St) (po : Int → St → Prop) : Prop := wp_X8_isProcess x1 σ (fun r101 s101 => (nm r101 ≠ 0 → wp_X8_isFree x1 s101 (fun r102 s102 => (nm r102 ≠ 0 → (0 ≤ nm x1 ∧ nm x1 < 16) ∧ (0 ≤ nm x1 ∧ nm x1 < 16) ∧ ∀ s103, s103 = uI s102 110 16 (nm x1).toNat 0 → wp_X8_slotOf x2 12 s103 (fun r103 s104 => (nm r103 = nm (-1) → ∃ n9, wp_X8_steps_68 po n9 x1 (gI s102 110 16 (nm x1).toNat) r103 0 0 0 s104) ∧
 (nm r103 ≠ nm (-1) → (nm (gI s102 110 16 (nm x1).toNat) ≤ 0 → ∃ n9, wp_X8_steps_68 po n9 x1 (gI s102 110 16 (nm x1).toNat) r103 0 0 0 s104) ∧
 (0 < nm (gI s102 110 16 (nm x1).toNat) → ∃ n9, wp_X8_steps_68 po n9 x1 (gI s102 110 16 (nm x1).toNat) r103 1 0 0 s104)))) ∧
 (nm r102 = 0 → po (-3) s102))) ∧
 (nm r101 = 0 → po (-2) s101))
set_option maxRecDepth 100000 in
set_option maxHeartbeats 4000000 in
theorem c_X8_steps (l : Launch) {x1 : Int} {x2 : Int} {σ : St} {po : Int → St → Prop} (hw : wp_X8_steps x1 x2 σ po) : MT l yX8_steps cX8_steps 9 (some .int) ({ frames := 3, cells := 0, slots := 0, locals := 75 } : Room) [wr 30 (some 0), wi x1, wi x2] σ (PI po) := by
  refine MT_of (by decide) (Nat.le_of_ble_eq_true rfl) (fun K hL hR hC hM => ?_)
  subst hL
  unfold wp_X8_steps at hw
  show J K 0 [some (wr 30 (some 0)), some (wi x1), some (wi x2), none, none, none, none, none, none] [] σ 0 0
  refine r_aload_n hC dX8_steps_0 rfl ?_
  refine r_iload_n hC dX8_steps_1 rfl ?_
  refine cl_X8_152 hC (c_X8_isProcess (kL K) hw) (by rw [hR]; decide) (Nat.le_of_ble_eq_true rfl) dX8_steps_2 (fun r101 s101 hq => ?_)
  clear hw
  have hw := hq
  clear hq
  refine r_if_ne (tgt := 11) hC dX8_steps_5 (by decide) (fun h => ?_) (fun h => ?_)
  · replace hw := hw.1 h
    refine r_aload_n hC dX8_steps_11 rfl ?_
    refine r_iload_n hC dX8_steps_12 rfl ?_
    refine cl_X8_173 hC (c_X8_isFree (kL K) hw) (by rw [hR]; decide) (Nat.le_of_ble_eq_true rfl) dX8_steps_13 (fun r102 s102 hq => ?_)
    clear hw
    have hw := hq
    clear hq
    refine r_if_ne (tgt := 22) hC dX8_steps_16 (by decide) (fun h => ?_) (fun h => ?_)
    · replace hw := hw.1 h
      refine r_aload_n hC dX8_steps_22 rfl ?_
      refine gf_X8_54 hC dX8_steps_23 ?_
      refine r_iload_n hC dX8_steps_26 rfl ?_
      refine r_iaload hC rfl (by decide) hw.1 dX8_steps_27 ?_
      replace hw := hw.2
      refine r_istore_n (l' := [_, _, _, _, _, _, _, _, _]) hC dX8_steps_28 rfl (by decide) rfl ?_
      refine r_aload_n hC dX8_steps_29 rfl ?_
      refine gf_X8_54 hC dX8_steps_30 ?_
      refine r_iload_n hC dX8_steps_33 rfl ?_
      refine r_iconst hC dX8_steps_34 ?_
      refine r_iastore hC rfl (by decide) hw.1 dX8_steps_35 (fun s103 e9 => ?_)
      replace hw := hw.2 s103 e9
      clear e9
      refine r_aload_n hC dX8_steps_36 rfl ?_
      refine r_iload_n hC dX8_steps_37 rfl ?_
      refine r_bipush hC dX8_steps_38 (by decide) ?_
      refine cl_X8_206 hC (c_X8_slotOf (kL K) hw) (by rw [hR]; decide) (Nat.le_of_ble_eq_true rfl) dX8_steps_40 (fun r103 s104 hq => ?_)
      clear hw
      have hw := hq
      clear hq
      refine r_istore (l' := [_, _, _, _, _, _, _, _, _]) hC dX8_steps_43 rfl (by decide) rfl ?_
      refine r_iload hC dX8_steps_45 rfl ?_
      refine r_iconst hC dX8_steps_47 ?_
      refine r_icmp_eq (tgt := 59) hC dX8_steps_48 (by decide) (fun h => ?_) (fun h => ?_)
      · replace hw := hw.1 h
        refine r_iconst hC dX8_steps_59 ?_
        refine r_istore (l' := [_, _, _, _, _, _, _, _, _]) hC dX8_steps_60 rfl (by decide) rfl ?_
        refine r_iconst hC dX8_steps_62 ?_
        refine r_istore (l' := [_, _, _, _, _, _, _, _, _]) hC dX8_steps_63 rfl (by decide) rfl ?_
        refine r_iconst hC dX8_steps_65 ?_
        refine r_istore (l' := [_, _, _, _, _, _, _, _, _]) hC dX8_steps_66 rfl (by decide) rfl ?_
        obtain ⟨n9, hw⟩ := hw
        exact J.drop2 (j_X8_steps_68 hR hC hM n9 x1 (gI s102 110 16 (nm x1).toNat) r103 0 0 0 s104 hw) ⟨rfl, rfl, rfl, rfl, rfl, rfl, rfl, trivial⟩
      · replace hw := hw.2 h
        refine r_iload_n hC dX8_steps_51 rfl ?_
        refine r_if_le (tgt := 59) hC dX8_steps_52 (by decide) (fun h => ?_) (fun h => ?_)
        · replace hw := hw.1 h
          refine r_iconst hC dX8_steps_59 ?_
          refine r_istore (l' := [_, _, _, _, _, _, _, _, _]) hC dX8_steps_60 rfl (by decide) rfl ?_
          refine r_iconst hC dX8_steps_62 ?_
          refine r_istore (l' := [_, _, _, _, _, _, _, _, _]) hC dX8_steps_63 rfl (by decide) rfl ?_
          refine r_iconst hC dX8_steps_65 ?_
          refine r_istore (l' := [_, _, _, _, _, _, _, _, _]) hC dX8_steps_66 rfl (by decide) rfl ?_
          obtain ⟨n9, hw⟩ := hw
          exact J.drop2 (j_X8_steps_68 hR hC hM n9 x1 (gI s102 110 16 (nm x1).toNat) r103 0 0 0 s104 hw) ⟨rfl, rfl, rfl, rfl, rfl, rfl, rfl, trivial⟩
        · replace hw := hw.2 h
          refine r_iconst hC dX8_steps_55 ?_
          refine r_goto (tgt := 60) hC dX8_steps_56 (by decide) ?_
          refine r_istore (l' := [_, _, _, _, _, _, _, _, _]) hC dX8_steps_60 rfl (by decide) rfl ?_
          refine r_iconst hC dX8_steps_62 ?_
          refine r_istore (l' := [_, _, _, _, _, _, _, _, _]) hC dX8_steps_63 rfl (by decide) rfl ?_
          refine r_iconst hC dX8_steps_65 ?_
          refine r_istore (l' := [_, _, _, _, _, _, _, _, _]) hC dX8_steps_66 rfl (by decide) rfl ?_
          obtain ⟨n9, hw⟩ := hw
          exact J.drop2 (j_X8_steps_68 hR hC hM n9 x1 (gI s102 110 16 (nm x1).toNat) r103 1 0 0 s104 hw) ⟨rfl, rfl, rfl, rfl, rfl, rfl, rfl, trivial⟩
    · replace hw := hw.2 h
      refine r_bipush hC dX8_steps_19 (by decide) ?_
      exact r_ireturn hC hM ⟨_, rfl, hw⟩ (by rw [hR]; decide) (by rw [hR]; decide) dX8_steps_21
  · replace hw := hw.2 h
    refine r_bipush hC dX8_steps_8 (by decide) ?_
    exact r_ireturn hC hM ⟨_, rfl, hw⟩ (by rw [hR]; decide) (by rw [hR]; decide) dX8_steps_10
