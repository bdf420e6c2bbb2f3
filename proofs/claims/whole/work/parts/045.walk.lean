/-! WALKS 5, printed by wip/whole/gen/mkwalks.py -/
def wp_X8_make (x1 : Int) (x2 : Int) (x3 : Int) (x4 : Int) (σ : St) (po : St → Prop) : Prop := (0 ≤ nm x2 ∧ nm x2 < 24) ∧ ∀ s101, s101 = uI σ 110 24 (nm x2).toNat 1 → (0 ≤ nm x2 ∧ nm x2 < 24) ∧ ∀ s102, s102 = uI s101 110 26 (nm x2).toNat x3 → (0 ≤ nm x1 ∧ nm x1 < 16) ∧ (0 ≤ nm x2 ∧ nm x2 < 24) ∧ ∀ s103, s103 = uI s102 110 27 (nm x2).toNat (gI s102 110 1 (nm x1).toNat) → (0 ≤ nm x1 ∧ nm x1 < 16) ∧ (0 ≤ nm x2 ∧ nm x2 < 24) ∧ ∀ s104, s104 = uI s103 110 28 (nm x2).toNat (gI s103 110 2 (nm x1).toNat) → (0 ≤ nm x1 ∧ nm x1 < 16) ∧ (0 ≤ nm x2 ∧ nm x2 < 24) ∧ ∀ s105, s105 = uI s104 110 29 (nm x2).toNat (gI s104 110 1 (nm x1).toNat) → (0 ≤ nm x1 ∧ nm x1 < 16) ∧ (0 ≤ nm x2 ∧ nm x2 < 24) ∧ ∀ s106, s106 = uI s105 110 30 (nm x2).toNat (gI s105 110 2 (nm x1).toNat) → (0 ≤ nm x2 ∧ nm x2 < 24) ∧ ∀ s107, s107 = uI s106 110 31 (nm x2).toNat (zand x4 511) → po s107
set_option maxRecDepth 100000 in
set_option maxHeartbeats 4000000 in
theorem c_X8_make (l : Launch) {x1 : Int} {x2 : Int} {x3 : Int} {x4 : Int} {σ : St} {po : St → Prop} (hw : wp_X8_make x1 x2 x3 x4 σ po) : MT l yX8_make cX8_make 5 none ({ frames := 0, cells := 0, slots := 0, locals := 0 } : Room) [wr 30 (some 0), wi x1, wi x2, wi x3, wi x4] σ (PV po) := by
  refine MT_of (by decide) (Nat.le_of_ble_eq_true rfl) (fun K hL hR hC hM => ?_)
  subst hL
  unfold wp_X8_make at hw
  show J K 0 [some (wr 30 (some 0)), some (wi x1), some (wi x2), some (wi x3), some (wi x4)] [] σ 0 0
  refine r_aload_n hC dX8_make_0 rfl ?_
  refine gf_X8_78 hC dX8_make_1 ?_
  refine r_iload_n hC dX8_make_4 rfl ?_
  refine r_iconst hC dX8_make_5 ?_
  refine r_zastore hC (by decide) rfl (by decide) hw.1 dX8_make_6 (fun s101 e9 => ?_)
  replace hw := hw.2 s101 e9
  clear e9
  refine r_aload_n hC dX8_make_7 rfl ?_
  refine gf_X8_84 hC dX8_make_8 ?_
  refine r_iload_n hC dX8_make_11 rfl ?_
  refine r_iload_n hC dX8_make_12 rfl ?_
  refine r_iastore hC rfl (by decide) hw.1 dX8_make_13 (fun s102 e9 => ?_)
  replace hw := hw.2 s102 e9
  clear e9
  refine r_aload_n hC dX8_make_14 rfl ?_
  refine gf_X8_87 hC dX8_make_15 ?_
  refine r_iload_n hC dX8_make_18 rfl ?_
  refine r_aload_n hC dX8_make_19 rfl ?_
  refine gf_X8_7 hC dX8_make_20 ?_
  refine r_iload_n hC dX8_make_23 rfl ?_
  refine r_iaload hC rfl (by decide) hw.1 dX8_make_24 ?_
  replace hw := hw.2
  refine r_iastore hC rfl (by decide) hw.1 dX8_make_25 (fun s103 e9 => ?_)
  replace hw := hw.2 s103 e9
  clear e9
  refine r_aload_n hC dX8_make_26 rfl ?_
  refine gf_X8_90 hC dX8_make_27 ?_
  refine r_iload_n hC dX8_make_30 rfl ?_
  refine r_aload_n hC dX8_make_31 rfl ?_
  refine gf_X8_13 hC dX8_make_32 ?_
  refine r_iload_n hC dX8_make_35 rfl ?_
  refine r_iaload hC rfl (by decide) hw.1 dX8_make_36 ?_
  replace hw := hw.2
  refine r_iastore hC rfl (by decide) hw.1 dX8_make_37 (fun s104 e9 => ?_)
  replace hw := hw.2 s104 e9
  clear e9
  refine r_aload_n hC dX8_make_38 rfl ?_
  refine gf_X8_93 hC dX8_make_39 ?_
  refine r_iload_n hC dX8_make_42 rfl ?_
  refine r_aload_n hC dX8_make_43 rfl ?_
  refine gf_X8_7 hC dX8_make_44 ?_
  refine r_iload_n hC dX8_make_47 rfl ?_
  refine r_iaload hC rfl (by decide) hw.1 dX8_make_48 ?_
  replace hw := hw.2
  refine r_iastore hC rfl (by decide) hw.1 dX8_make_49 (fun s105 e9 => ?_)
  replace hw := hw.2 s105 e9
  clear e9
  refine r_aload_n hC dX8_make_50 rfl ?_
  refine gf_X8_96 hC dX8_make_51 ?_
  refine r_iload_n hC dX8_make_54 rfl ?_
  refine r_aload_n hC dX8_make_55 rfl ?_
  refine gf_X8_13 hC dX8_make_56 ?_
  refine r_iload_n hC dX8_make_59 rfl ?_
  refine r_iaload hC rfl (by decide) hw.1 dX8_make_60 ?_
  replace hw := hw.2
  refine r_iastore hC rfl (by decide) hw.1 dX8_make_61 (fun s106 e9 => ?_)
  replace hw := hw.2 s106 e9
  clear e9
  refine r_aload_n hC dX8_make_62 rfl ?_
  refine gf_X8_99 hC dX8_make_63 ?_
  refine r_iload_n hC dX8_make_66 rfl ?_
  refine r_iload hC dX8_make_67 rfl ?_
  refine r_sipush hC dX8_make_69 (by decide) ?_
  refine r_iand hC dX8_make_72 ?_
  refine r_iastore hC rfl (by decide) hw.1 dX8_make_73 (fun s107 e9 => ?_)
  replace hw := hw.2 s107 e9
  clear e9
  exact r_vreturn hC hM ⟨rfl, hw⟩ (by rw [hR]; decide) (by rw [hR]; decide) dX8_make_74
def wp_X8_queue_138 (po : Int → St → Prop) (x1 : Int) (x2 : Int) (x3 : Int) (σ : St) : Prop := wp_X8_freeSlot 0 σ (fun r107 s107 => (nm r107 ≠ nm (-1) → wp_X8_make x1 r107 x2 x3 s107 (fun s108 => (0 ≤ nm r107 ∧ nm r107 < 12) ∧ ∀ s109, s109 = uI s108 110 32 (nm r107).toNat 0 → (0 ≤ nm r107 ∧ nm r107 < 12) ∧ ∀ s110, s110 = uI s109 110 33 (nm r107).toNat 256 → (0 ≤ nm r107 ∧ nm r107 < 12) ∧ ∀ s111, s111 = uI s110 110 34 (nm r107).toNat 0 → wp_X8_idOf r107 s111 (fun r108 s112 => wp_X8_tells x1 r108 s112 (fun r109 s113 => po r109 s113)))) ∧
 (nm r107 = nm (-1) → wp_X8_tells x1 (-9) s107 (fun r110 s114 => po r110 s114)))
set_option maxRecDepth 100000 in
set_option maxHeartbeats 4000000 in
theorem j_X8_queue_138 {K : JK} (hR : kRm K = ({ frames := 2, cells := 0, slots := 0, locals := 46 } : Room)) (hC : Cx K cX8_queue 5 RX8) {po : Int → St → Prop} (hM : Mx K (some .int) (PI po)) : ∀ (x1 : Int) (x2 : Int) (x3 : Int) (σ : St), wp_X8_queue_138 po x1 x2 x3 σ → J K 138 [some (wr 30 (some 0)), some (wi x1), some (wi x2), some (wi x3), none] [] σ 0 0 := by
  intro x1 x2 x3 σ hw
  unfold wp_X8_queue_138 at hw
  refine r_aload_n hC dX8_queue_138 rfl ?_
  refine r_iconst hC dX8_queue_139 ?_
  refine cl_X8_197 hC (c_X8_freeSlot (kL K) hw) (by rw [hR]; decide) (Nat.le_of_ble_eq_true rfl) dX8_queue_140 (fun r107 s107 hq => ?_)
  clear hw
  have hw := hq
  clear hq
  refine r_istore (l' := [_, _, _, _, _]) hC dX8_queue_143 rfl (by decide) rfl ?_
  refine r_iload hC dX8_queue_145 rfl ?_
  refine r_iconst hC dX8_queue_147 ?_
  refine r_icmp_ne (tgt := 159) hC dX8_queue_148 (by decide) (fun h => ?_) (fun h => ?_)
  · replace hw := hw.1 h
    refine r_aload_n hC dX8_queue_159 rfl ?_
    refine r_iload_n hC dX8_queue_160 rfl ?_
    refine r_iload hC dX8_queue_161 rfl ?_
    refine r_iload_n hC dX8_queue_163 rfl ?_
    refine r_iload_n hC dX8_queue_164 rfl ?_
    refine cl_X8_200 hC (c_X8_make (kL K) hw) (by rw [hR]; decide) (Nat.le_of_ble_eq_true rfl) dX8_queue_165 (fun s108 hq => ?_)
    clear hw
    have hw := hq
    clear hq
    refine r_aload_n hC dX8_queue_168 rfl ?_
    refine gf_X8_102 hC dX8_queue_169 ?_
    refine r_iload hC dX8_queue_172 rfl ?_
    refine r_iconst hC dX8_queue_174 ?_
    refine r_iastore hC rfl (by decide) hw.1 dX8_queue_175 (fun s109 e9 => ?_)
    replace hw := hw.2 s109 e9
    clear e9
    refine r_aload_n hC dX8_queue_176 rfl ?_
    refine gf_X8_105 hC dX8_queue_177 ?_
    refine r_iload hC dX8_queue_180 rfl ?_
    refine r_sipush hC dX8_queue_182 (by decide) ?_
    refine r_iastore hC rfl (by decide) hw.1 dX8_queue_185 (fun s110 e9 => ?_)
    replace hw := hw.2 s110 e9
    clear e9
    refine r_aload_n hC dX8_queue_186 rfl ?_
    refine gf_X8_108 hC dX8_queue_187 ?_
    refine r_iload hC dX8_queue_190 rfl ?_
    refine r_iconst hC dX8_queue_192 ?_
    refine r_iastore hC rfl (by decide) hw.1 dX8_queue_193 (fun s111 e9 => ?_)
    replace hw := hw.2 s111 e9
    clear e9
    refine r_aload_n hC dX8_queue_194 rfl ?_
    refine r_iload_n hC dX8_queue_195 rfl ?_
    refine r_aload_n hC dX8_queue_196 rfl ?_
    refine r_iload hC dX8_queue_197 rfl ?_
    refine cl_X8_194 hC (c_X8_idOf (kL K) hw) (by rw [hR]; decide) (Nat.le_of_ble_eq_true rfl) dX8_queue_199 (fun r108 s112 hq => ?_)
    clear hw
    have hw := hq
    clear hq
    refine cl_X8_180 hC (c_X8_tells (kL K) hw) (by rw [hR]; decide) (Nat.le_of_ble_eq_true rfl) dX8_queue_202 (fun r109 s113 hq => ?_)
    clear hw
    have hw := hq
    clear hq
    exact r_ireturn hC hM ⟨_, rfl, hw⟩ (by rw [hR]; decide) (by rw [hR]; decide) dX8_queue_205
  · replace hw := hw.2 h
    refine r_aload_n hC dX8_queue_151 rfl ?_
    refine r_iload_n hC dX8_queue_152 rfl ?_
    refine r_bipush hC dX8_queue_153 (by decide) ?_
    refine cl_X8_180 hC (c_X8_tells (kL K) hw) (by rw [hR]; decide) (Nat.le_of_ble_eq_true rfl) dX8_queue_155 (fun r110 s114 hq => ?_)
    clear hw
    have hw := hq
    clear hq
    exact r_ireturn hC hM ⟨_, rfl, hw⟩ (by rw [hR]; decide) (by rw [hR]; decide) dX8_queue_158
def wp_X8_queue (x1 : Int) (x2 : Int) (x3 : Int) (σ : St) (po : Int → St → Prop) : Prop := wp_X8_isProcess x1 σ (fun r101 s101 => (nm r101 ≠ 0 → wp_X8_isFree x1 s101 (fun r102 s102 => (nm r102 ≠ 0 → wp_X8_in (nm x2) 0 1000000 s102 (fun r103 s103 => (nm r103 = 0 → wp_X8_tells x1 (-4) s103 (fun r104 s104 => po r104 s104)) ∧
 (nm r103 ≠ 0 → wp_X8_in (nm x3) 0 2047 s103 (fun r105 s105 => (nm r105 ≠ 0 → wp_X8_withKey x2 0 s105 (fun r106 s106 => (nm r106 = nm (-1) → (nm x2 = 0 → wp_X8_queue_138 po x1 x2 x3 s106) ∧
 (nm x2 ≠ 0 → (nm (zand x3 512) ≠ 0 → wp_X8_queue_138 po x1 x2 x3 s106) ∧
 (nm (zand x3 512) = 0 → wp_X8_tells x1 (-8) s106 (fun r111 s115 => po r111 s115)))) ∧
 (nm r106 ≠ nm (-1) → (nm (zand x3 1536) ≠ nm 1536 → wp_X8_wanted x3 s106 (fun r112 s116 => wp_X8_hasAll x1 r106 r112 s116 (fun r113 s117 => (nm r113 = 0 → wp_X8_tells x1 (-6) s117 (fun r114 s118 => po r114 s118)) ∧
 (nm r113 ≠ 0 → wp_X8_idOf r106 s117 (fun r115 s119 => wp_X8_tells x1 r115 s119 (fun r116 s120 => po r116 s120)))))) ∧
 (nm (zand x3 1536) = nm 1536 → wp_X8_tells x1 (-7) s106 (fun r117 s121 => po r117 s121))))) ∧
 (nm r105 = 0 → wp_X8_tells x1 (-4) s105 (fun r118 s122 => po r118 s122)))))) ∧
 (nm r102 = 0 → po (-3) s102))) ∧
 (nm r101 = 0 → po (-2) s101))
set_option maxRecDepth 100000 in
set_option maxHeartbeats 4000000 in
theorem c_X8_queue (l : Launch) {x1 : Int} {x2 : Int} {x3 : Int} {σ : St} {po : Int → St → Prop} (hw : wp_X8_queue x1 x2 x3 σ po) : MT l yX8_queue cX8_queue 5 (some .int) ({ frames := 2, cells := 0, slots := 0, locals := 46 } : Room) [wr 30 (some 0), wi x1, wi x2, wi x3] σ (PI po) := by
  refine MT_of (by decide) (Nat.le_of_ble_eq_true rfl) (fun K hL hR hC hM => ?_)
  subst hL
  unfold wp_X8_queue at hw
  show J K 0 [some (wr 30 (some 0)), some (wi x1), some (wi x2), some (wi x3), none] [] σ 0 0
  refine r_aload_n hC dX8_queue_0 rfl ?_
  refine r_iload_n hC dX8_queue_1 rfl ?_
  refine cl_X8_152 hC (c_X8_isProcess (kL K) hw) (by rw [hR]; decide) (Nat.le_of_ble_eq_true rfl) dX8_queue_2 (fun r101 s101 hq => ?_)
  clear hw
  have hw := hq
  clear hq
  refine r_if_ne (tgt := 11) hC dX8_queue_5 (by decide) (fun h => ?_) (fun h => ?_)
  · replace hw := hw.1 h
    refine r_aload_n hC dX8_queue_11 rfl ?_
    refine r_iload_n hC dX8_queue_12 rfl ?_
    refine cl_X8_173 hC (c_X8_isFree (kL K) hw) (by rw [hR]; decide) (Nat.le_of_ble_eq_true rfl) dX8_queue_13 (fun r102 s102 hq => ?_)
    clear hw
    have hw := hq
    clear hq
    refine r_if_ne (tgt := 22) hC dX8_queue_16 (by decide) (fun h => ?_) (fun h => ?_)
    · replace hw := hw.1 h
      refine r_iload_n hC dX8_queue_22 rfl ?_
      refine r_i2l hC dX8_queue_23 ?_
      refine r_lconst hC 0 rfl dX8_queue_24 ?_
      refine r_ldc2 hC 1000000 (wg 987 (by decide +kernel) (by decide +kernel)) rfl dX8_queue_25 ?_
      refine cl_X8_142 hC (c_X8_in (kL K) hw) (by rw [hR]; decide) (Nat.le_of_ble_eq_true rfl) dX8_queue_28 (fun r103 s103 hq => ?_)
      clear hw
      have hw := hq
      clear hq
      refine r_if_eq (tgt := 46) hC dX8_queue_31 (by decide) (fun h => ?_) (fun h => ?_)
      · replace hw := hw.1 h
        refine r_aload_n hC dX8_queue_46 rfl ?_
        refine r_iload_n hC dX8_queue_47 rfl ?_
        refine r_bipush hC dX8_queue_48 (by decide) ?_
        refine cl_X8_180 hC (c_X8_tells (kL K) hw) (by rw [hR]; decide) (Nat.le_of_ble_eq_true rfl) dX8_queue_50 (fun r104 s104 hq => ?_)
        clear hw
        have hw := hq
        clear hq
        exact r_ireturn hC hM ⟨_, rfl, hw⟩ (by rw [hR]; decide) (by rw [hR]; decide) dX8_queue_53
      · replace hw := hw.2 h
        refine r_iload_n hC dX8_queue_34 rfl ?_
        refine r_i2l hC dX8_queue_35 ?_
        refine r_lconst hC 0 rfl dX8_queue_36 ?_
        refine r_ldc2 hC 2047 (wg 988 (by decide +kernel) (by decide +kernel)) rfl dX8_queue_37 ?_
        refine cl_X8_142 hC (c_X8_in (kL K) hw) (by rw [hR]; decide) (Nat.le_of_ble_eq_true rfl) dX8_queue_40 (fun r105 s105 hq => ?_)
        clear hw
        have hw := hq
        clear hq
        refine r_if_ne (tgt := 54) hC dX8_queue_43 (by decide) (fun h => ?_) (fun h => ?_)
        · replace hw := hw.1 h
          refine r_aload_n hC dX8_queue_54 rfl ?_
          refine r_iload_n hC dX8_queue_55 rfl ?_
          refine r_iconst hC dX8_queue_56 ?_
          refine cl_X8_183 hC (c_X8_withKey (kL K) hw) (by rw [hR]; decide) (Nat.le_of_ble_eq_true rfl) dX8_queue_57 (fun r106 s106 hq => ?_)
          clear hw
          have hw := hq
          clear hq
          refine r_istore (l' := [_, _, _, _, _]) hC dX8_queue_60 rfl (by decide) rfl ?_
          refine r_iload hC dX8_queue_62 rfl ?_
          refine r_iconst hC dX8_queue_64 ?_
          refine r_icmp_eq (tgt := 118) hC dX8_queue_65 (by decide) (fun h => ?_) (fun h => ?_)
          · replace hw := hw.1 h
            refine r_iload_n hC dX8_queue_118 rfl ?_
            refine r_if_eq (tgt := 138) hC dX8_queue_119 (by decide) (fun h => ?_) (fun h => ?_)
            · replace hw := hw.1 h
              exact J.drop2 (j_X8_queue_138 hR hC hM x1 x2 x3 s106 hw) ⟨rfl, rfl, rfl, rfl, trivial⟩
            · replace hw := hw.2 h
              refine r_iload_n hC dX8_queue_122 rfl ?_
              refine r_sipush hC dX8_queue_123 (by decide) ?_
              refine r_iand hC dX8_queue_126 ?_
              refine r_if_ne (tgt := 138) hC dX8_queue_127 (by decide) (fun h => ?_) (fun h => ?_)
              · replace hw := hw.1 h
                exact J.drop2 (j_X8_queue_138 hR hC hM x1 x2 x3 s106 hw) ⟨rfl, rfl, rfl, rfl, trivial⟩
              · replace hw := hw.2 h
                refine r_aload_n hC dX8_queue_130 rfl ?_
                refine r_iload_n hC dX8_queue_131 rfl ?_
                refine r_bipush hC dX8_queue_132 (by decide) ?_
                refine cl_X8_180 hC (c_X8_tells (kL K) hw) (by rw [hR]; decide) (Nat.le_of_ble_eq_true rfl) dX8_queue_134 (fun r111 s115 hq => ?_)
                clear hw
                have hw := hq
                clear hq
                exact r_ireturn hC hM ⟨_, rfl, hw⟩ (by rw [hR]; decide) (by rw [hR]; decide) dX8_queue_137
          · replace hw := hw.2 h
            refine r_iload_n hC dX8_queue_68 rfl ?_
            refine r_sipush hC dX8_queue_69 (by decide) ?_
            refine r_iand hC dX8_queue_72 ?_
            refine r_sipush hC dX8_queue_73 (by decide) ?_
            refine r_icmp_ne (tgt := 87) hC dX8_queue_76 (by decide) (fun h => ?_) (fun h => ?_)
            · replace hw := hw.1 h
              refine r_aload_n hC dX8_queue_87 rfl ?_
              refine r_iload_n hC dX8_queue_88 rfl ?_
              refine r_aload_n hC dX8_queue_89 rfl ?_
              refine r_iload_n hC dX8_queue_90 rfl ?_
              refine r_iload hC dX8_queue_91 rfl ?_
              refine r_iload_n hC dX8_queue_93 rfl ?_
              refine cl_X8_186 hC (c_X8_wanted (kL K) hw) (by rw [hR]; decide) (Nat.le_of_ble_eq_true rfl) dX8_queue_94 (fun r112 s116 hq => ?_)
              clear hw
              have hw := hq
              clear hq
              refine cl_X8_190 hC (c_X8_hasAll (kL K) hw) (by rw [hR]; decide) (Nat.le_of_ble_eq_true rfl) dX8_queue_97 (fun r113 s117 hq => ?_)
              clear hw
              have hw := hq
              clear hq
              refine r_if_eq (tgt := 112) hC dX8_queue_100 (by decide) (fun h => ?_) (fun h => ?_)
              · replace hw := hw.1 h
                refine r_bipush hC dX8_queue_112 (by decide) ?_
                refine cl_X8_180 hC (c_X8_tells (kL K) hw) (by rw [hR]; decide) (Nat.le_of_ble_eq_true rfl) dX8_queue_114 (fun r114 s118 hq => ?_)
                clear hw
                have hw := hq
                clear hq
                exact r_ireturn hC hM ⟨_, rfl, hw⟩ (by rw [hR]; decide) (by rw [hR]; decide) dX8_queue_117
              · replace hw := hw.2 h
                refine r_aload_n hC dX8_queue_103 rfl ?_
                refine r_iload hC dX8_queue_104 rfl ?_
                refine cl_X8_194 hC (c_X8_idOf (kL K) hw) (by rw [hR]; decide) (Nat.le_of_ble_eq_true rfl) dX8_queue_106 (fun r115 s119 hq => ?_)
                clear hw
                have hw := hq
                clear hq
                refine r_goto (tgt := 114) hC dX8_queue_109 (by decide) ?_
                refine cl_X8_180 hC (c_X8_tells (kL K) hw) (by rw [hR]; decide) (Nat.le_of_ble_eq_true rfl) dX8_queue_114 (fun r116 s120 hq => ?_)
                clear hw
                have hw := hq
                clear hq
                exact r_ireturn hC hM ⟨_, rfl, hw⟩ (by rw [hR]; decide) (by rw [hR]; decide) dX8_queue_117
            · replace hw := hw.2 h
              refine r_aload_n hC dX8_queue_79 rfl ?_
              refine r_iload_n hC dX8_queue_80 rfl ?_
              refine r_bipush hC dX8_queue_81 (by decide) ?_
              refine cl_X8_180 hC (c_X8_tells (kL K) hw) (by rw [hR]; decide) (Nat.le_of_ble_eq_true rfl) dX8_queue_83 (fun r117 s121 hq => ?_)
              clear hw
              have hw := hq
              clear hq
              exact r_ireturn hC hM ⟨_, rfl, hw⟩ (by rw [hR]; decide) (by rw [hR]; decide) dX8_queue_86
        · replace hw := hw.2 h
          refine r_aload_n hC dX8_queue_46 rfl ?_
          refine r_iload_n hC dX8_queue_47 rfl ?_
          refine r_bipush hC dX8_queue_48 (by decide) ?_
          refine cl_X8_180 hC (c_X8_tells (kL K) hw) (by rw [hR]; decide) (Nat.le_of_ble_eq_true rfl) dX8_queue_50 (fun r118 s122 hq => ?_)
          clear hw
          have hw := hq
          clear hq
          exact r_ireturn hC hM ⟨_, rfl, hw⟩ (by rw [hR]; decide) (by rw [hR]; decide) dX8_queue_53
    · replace hw := hw.2 h
      refine r_bipush hC dX8_queue_19 (by decide) ?_
      exact r_ireturn hC hM ⟨_, rfl, hw⟩ (by rw [hR]; decide) (by rw [hR]; decide) dX8_queue_21
  · replace hw := hw.2 h
    refine r_bipush hC dX8_queue_8 (by decide) ?_
    exact r_ireturn hC hM ⟨_, rfl, hw⟩ (by rw [hR]; decide) (by rw [hR]; decide) dX8_queue_10
def wp_X8_set_277 (po : Int → St → Prop) (X239 : Int → Int → Int → Int → St → Prop) : Nat → Int → Int → Int → Int → Int → St → Prop
  | 0, _, _, _, _, _, _ => False
  | n + 1, x1, x5, x6, x7, x8, σ => (nm 16 ≤ nm x8 → X239 x1 x5 x6 (x7 + 1) σ) ∧
 (nm x8 < nm 16 → (0 ≤ nm (((96 * x8) + (8 * x6)) + x7) ∧ nm (((96 * x8) + (8 * x6)) + x7) < 1536) ∧ ∀ s116, s116 = uI σ 110 41 (nm (((96 * x8) + (8 * x6)) + x7)).toNat 0 → wp_X8_set_277 po X239 n x1 x5 x6 x7 (x8 + 1) s116)
set_option maxRecDepth 100000 in
set_option maxHeartbeats 4000000 in
theorem j_X8_set_277 {K : JK} (hR : kRm K = ({ frames := 2, cells := 0, slots := 0, locals := 46 } : Room)) (hC : Cx K cX8_set 9 RX8) {po : Int → St → Prop} (hM : Mx K (some .int) (PI po)) {X239 : Int → Int → Int → Int → St → Prop} (hX239 : ∀ (x1 : Int) (x5 : Int) (x6 : Int) (x7 : Int) (σ : St), X239 x1 x5 x6 x7 σ → J K 239 [some (wr 30 (some 0)), some (wi x1), none, none, none, some (wi x5), some (wi x6), some (wi x7), none] [] σ 0 0) : ∀ (n : Nat) (x1 : Int) (x5 : Int) (x6 : Int) (x7 : Int) (x8 : Int) (σ : St), wp_X8_set_277 po X239 n x1 x5 x6 x7 x8 σ → J K 277 [some (wr 30 (some 0)), some (wi x1), none, none, none, some (wi x5), some (wi x6), some (wi x7), some (wi x8)] [] σ 0 0 := by
  intro n
  induction n with
  | zero =>
    intro x1 x5 x6 x7 x8 σ hw
    exact False.elim hw
  | succ n ih =>
    intro x1 x5 x6 x7 x8 σ hw
    unfold wp_X8_set_277 at hw
    refine r_iload hC dX8_set_277 rfl ?_
    refine r_bipush hC dX8_set_279 (by decide) ?_
    refine r_icmp_ge (tgt := 310) hC dX8_set_281 (by decide) (fun h => ?_) (fun h => ?_)
    · replace hw := hw.1 h
      refine r_iinc (l' := [_, _, _, _, _, _, _, _, _]) hC dX8_set_310 rfl rfl (by decide) rfl ?_
      refine r_goto (tgt := 239) hC dX8_set_313 (by decide) ?_
      exact J.drop2 (hX239 x1 x5 x6 (x7 + 1) σ hw) ⟨rfl, rfl, rfl, rfl, rfl, trivial⟩
    · replace hw := hw.2 h
      refine r_aload_n hC dX8_set_284 rfl ?_
      refine gf_X8_129 hC dX8_set_285 ?_
      refine r_bipush hC dX8_set_288 (by decide) ?_
      refine r_iload hC dX8_set_290 rfl ?_
      refine r_imul hC dX8_set_292 ?_
      refine r_bipush hC dX8_set_293 (by decide) ?_
      refine r_iload hC dX8_set_295 rfl ?_
      refine r_imul hC dX8_set_297 ?_
      refine r_iadd hC dX8_set_298 ?_
      refine r_iload hC dX8_set_299 rfl ?_
      refine r_iadd hC dX8_set_301 ?_
      refine r_iconst hC dX8_set_302 ?_
      refine r_iastore hC rfl (by decide) hw.1 dX8_set_303 (fun s116 e9 => ?_)
      replace hw := hw.2 s116 e9
      clear e9
      refine r_iinc (l' := [_, _, _, _, _, _, _, _, _]) hC dX8_set_304 rfl rfl (by decide) rfl ?_
      refine r_goto (tgt := 277) hC dX8_set_307 (by decide) ?_
      exact J.drop2 (ih x1 x5 x6 x7 (x8 + 1) s116 hw) ⟨rfl, rfl, rfl, rfl, rfl, rfl, trivial⟩
def wp_X8_set_239 (po : Int → St → Prop) : Nat → Int → Int → Int → Int → St → Prop
  | 0, _, _, _, _, _ => False
  | n + 1, x1, x5, x6, x7, σ => (nm 8 ≤ nm x7 → wp_X8_idOf x5 σ (fun r110 s112 => wp_X8_tells x1 r110 s112 (fun r111 s113 => po r111 s113))) ∧
 (nm x7 < nm 8 → (0 ≤ nm ((8 * x6) + x7) ∧ nm ((8 * x6) + x7) < 96) ∧ ∀ s114, s114 = uI σ 110 39 (nm ((8 * x6) + x7)).toNat 0 → (0 ≤ nm ((8 * x6) + x7) ∧ nm ((8 * x6) + x7) < 96) ∧ ∀ s115, s115 = uI s114 110 40 (nm ((8 * x6) + x7)).toNat (-1) → ∃ n9, wp_X8_set_277 po (fun x1 x5 x6 x7 s9 => wp_X8_set_239 po n x1 x5 x6 x7 s9) n9 x1 x5 x6 x7 0 s115)
set_option maxRecDepth 100000 in
set_option maxHeartbeats 4000000 in
theorem j_X8_set_239 {K : JK} (hR : kRm K = ({ frames := 2, cells := 0, slots := 0, locals := 46 } : Room)) (hC : Cx K cX8_set 9 RX8) {po : Int → St → Prop} (hM : Mx K (some .int) (PI po)) : ∀ (n : Nat) (x1 : Int) (x5 : Int) (x6 : Int) (x7 : Int) (σ : St), wp_X8_set_239 po n x1 x5 x6 x7 σ → J K 239 [some (wr 30 (some 0)), some (wi x1), none, none, none, some (wi x5), some (wi x6), some (wi x7), none] [] σ 0 0 := by
  intro n
  induction n with
  | zero =>
    intro x1 x5 x6 x7 σ hw
    exact False.elim hw
  | succ n ih =>
    intro x1 x5 x6 x7 σ hw
    unfold wp_X8_set_239 at hw
    refine r_iload hC dX8_set_239 rfl ?_
    refine r_bipush hC dX8_set_241 (by decide) ?_
    refine r_icmp_ge (tgt := 316) hC dX8_set_243 (by decide) (fun h => ?_) (fun h => ?_)
    · replace hw := hw.1 h
      refine r_aload_n hC dX8_set_316 rfl ?_
      refine r_iload_n hC dX8_set_317 rfl ?_
      refine r_aload_n hC dX8_set_318 rfl ?_
      refine r_iload hC dX8_set_319 rfl ?_
      refine cl_X8_194 hC (c_X8_idOf (kL K) hw) (by rw [hR]; decide) (Nat.le_of_ble_eq_true rfl) dX8_set_321 (fun r110 s112 hq => ?_)
      clear hw
      have hw := hq
      clear hq
      refine cl_X8_180 hC (c_X8_tells (kL K) hw) (by rw [hR]; decide) (Nat.le_of_ble_eq_true rfl) dX8_set_324 (fun r111 s113 hq => ?_)
      clear hw
      have hw := hq
      clear hq
      exact r_ireturn hC hM ⟨_, rfl, hw⟩ (by rw [hR]; decide) (by rw [hR]; decide) dX8_set_327
    · replace hw := hw.2 h
      refine r_aload_n hC dX8_set_246 rfl ?_
      refine gf_X8_123 hC dX8_set_247 ?_
      refine r_bipush hC dX8_set_250 (by decide) ?_
      refine r_iload hC dX8_set_252 rfl ?_
      refine r_imul hC dX8_set_254 ?_
      refine r_iload hC dX8_set_255 rfl ?_
      refine r_iadd hC dX8_set_257 ?_
      refine r_iconst hC dX8_set_258 ?_
      refine r_iastore hC rfl (by decide) hw.1 dX8_set_259 (fun s114 e9 => ?_)
      replace hw := hw.2 s114 e9
      clear e9
      refine r_aload_n hC dX8_set_260 rfl ?_
      refine gf_X8_126 hC dX8_set_261 ?_
      refine r_bipush hC dX8_set_264 (by decide) ?_
      refine r_iload hC dX8_set_266 rfl ?_
      refine r_imul hC dX8_set_268 ?_
      refine r_iload hC dX8_set_269 rfl ?_
      refine r_iadd hC dX8_set_271 ?_
      refine r_iconst hC dX8_set_272 ?_
      refine r_iastore hC rfl (by decide) hw.1 dX8_set_273 (fun s115 e9 => ?_)
      replace hw := hw.2 s115 e9
      clear e9
      refine r_iconst hC dX8_set_274 ?_
      refine r_istore (l' := [_, _, _, _, _, _, _, _, _]) hC dX8_set_275 rfl (by decide) rfl ?_
      obtain ⟨n9, hw⟩ := hw
      exact J.drop2 (j_X8_set_277 hR hC hM ih n9 x1 x5 x6 x7 0 s115 hw) ⟨rfl, rfl, rfl, rfl, rfl, rfl, trivial⟩
def wp_X8_set_177 (po : Int → St → Prop) (x1 : Int) (x2 : Int) (x3 : Int) (x4 : Int) (σ : St) : Prop := (nm x3 ≠ 0 → wp_X8_freeSlot 12 σ (fun r109 s109 => (nm r109 ≠ nm (-1) → wp_X8_make x1 r109 x2 x4 s109 (fun s110 => (0 ≤ nm (r109 - 12) ∧ nm (r109 - 12) < 12) ∧ ∀ s111, s111 = uI s110 110 38 (nm (r109 - 12)).toNat x3 → ∃ n9, wp_X8_set_239 po n9 x1 r109 (r109 - 12) 0 s111)) ∧
 (nm r109 = nm (-1) → wp_X8_tells x1 (-9) s109 (fun r112 s117 => po r112 s117)))) ∧
 (nm x3 = 0 → wp_X8_tells x1 (-5) σ (fun r113 s118 => po r113 s118))
set_option maxRecDepth 100000 in
set_option maxHeartbeats 4000000 in
theorem j_X8_set_177 {K : JK} (hR : kRm K = ({ frames := 2, cells := 0, slots := 0, locals := 46 } : Room)) (hC : Cx K cX8_set 9 RX8) {po : Int → St → Prop} (hM : Mx K (some .int) (PI po)) : ∀ (x1 : Int) (x2 : Int) (x3 : Int) (x4 : Int) (σ : St), wp_X8_set_177 po x1 x2 x3 x4 σ → J K 177 [some (wr 30 (some 0)), some (wi x1), some (wi x2), some (wi x3), some (wi x4), none, none, none, none] [] σ 0 0 := by
  intro x1 x2 x3 x4 σ hw
  unfold wp_X8_set_177 at hw
  refine r_iload_n hC dX8_set_177 rfl ?_
  refine r_if_ne (tgt := 189) hC dX8_set_178 (by decide) (fun h => ?_) (fun h => ?_)
  · replace hw := hw.1 h
    refine r_aload_n hC dX8_set_189 rfl ?_
    refine r_bipush hC dX8_set_190 (by decide) ?_
    refine cl_X8_197 hC (c_X8_freeSlot (kL K) hw) (by rw [hR]; decide) (Nat.le_of_ble_eq_true rfl) dX8_set_192 (fun r109 s109 hq => ?_)
    clear hw
    have hw := hq
    clear hq
    refine r_istore (l' := [_, _, _, _, _, _, _, _, _]) hC dX8_set_195 rfl (by decide) rfl ?_
    refine r_iload hC dX8_set_197 rfl ?_
    refine r_iconst hC dX8_set_199 ?_
    refine r_icmp_ne (tgt := 211) hC dX8_set_200 (by decide) (fun h => ?_) (fun h => ?_)
    · replace hw := hw.1 h
      refine r_aload_n hC dX8_set_211 rfl ?_
      refine r_iload_n hC dX8_set_212 rfl ?_
      refine r_iload hC dX8_set_213 rfl ?_
      refine r_iload_n hC dX8_set_215 rfl ?_
      refine r_iload hC dX8_set_216 rfl ?_
      refine cl_X8_200 hC (c_X8_make (kL K) hw) (by rw [hR]; decide) (Nat.le_of_ble_eq_true rfl) dX8_set_218 (fun s110 hq => ?_)
      clear hw
      have hw := hq
      clear hq
      refine r_iload hC dX8_set_221 rfl ?_
      refine r_bipush hC dX8_set_223 (by decide) ?_
      refine r_isub hC dX8_set_225 ?_
      refine r_istore (l' := [_, _, _, _, _, _, _, _, _]) hC dX8_set_226 rfl (by decide) rfl ?_
      refine r_aload_n hC dX8_set_228 rfl ?_
      refine gf_X8_120 hC dX8_set_229 ?_
      refine r_iload hC dX8_set_232 rfl ?_
      refine r_iload_n hC dX8_set_234 rfl ?_
      refine r_iastore hC rfl (by decide) hw.1 dX8_set_235 (fun s111 e9 => ?_)
      replace hw := hw.2 s111 e9
      clear e9
      refine r_iconst hC dX8_set_236 ?_
      refine r_istore (l' := [_, _, _, _, _, _, _, _, _]) hC dX8_set_237 rfl (by decide) rfl ?_
      obtain ⟨n9, hw⟩ := hw
      exact J.drop2 (j_X8_set_239 hR hC hM n9 x1 r109 (r109 - 12) 0 s111 hw) ⟨rfl, rfl, rfl, rfl, rfl, trivial⟩
    · replace hw := hw.2 h
      refine r_aload_n hC dX8_set_203 rfl ?_
      refine r_iload_n hC dX8_set_204 rfl ?_
      refine r_bipush hC dX8_set_205 (by decide) ?_
      refine cl_X8_180 hC (c_X8_tells (kL K) hw) (by rw [hR]; decide) (Nat.le_of_ble_eq_true rfl) dX8_set_207 (fun r112 s117 hq => ?_)
      clear hw
      have hw := hq
      clear hq
      exact r_ireturn hC hM ⟨_, rfl, hw⟩ (by rw [hR]; decide) (by rw [hR]; decide) dX8_set_210
  · replace hw := hw.2 h
    refine r_aload_n hC dX8_set_181 rfl ?_
    refine r_iload_n hC dX8_set_182 rfl ?_
    refine r_bipush hC dX8_set_183 (by decide) ?_
    refine cl_X8_180 hC (c_X8_tells (kL K) hw) (by rw [hR]; decide) (Nat.le_of_ble_eq_true rfl) dX8_set_185 (fun r113 s118 hq => ?_)
    clear hw
    have hw := hq
    clear hq
    exact r_ireturn hC hM ⟨_, rfl, hw⟩ (by rw [hR]; decide) (by rw [hR]; decide) dX8_set_188
def wp_X8_set (x1 : Int) (x2 : Int) (x3 : Int) (x4 : Int) (σ : St) (po : Int → St → Prop) : Prop := wp_X8_isProcess x1 σ (fun r101 s101 => (nm r101 ≠ 0 → wp_X8_isFree x1 s101 (fun r102 s102 => (nm r102 ≠ 0 → wp_X8_in (nm x2) 0 1000000 s102 (fun r103 s103 => (nm r103 = 0 → wp_X8_tells x1 (-4) s103 (fun r104 s104 => po r104 s104)) ∧
 (nm r103 ≠ 0 → wp_X8_in (nm x4) 0 2047 s103 (fun r105 s105 => (nm r105 = 0 → wp_X8_tells x1 (-4) s105 (fun r106 s106 => po r106 s106)) ∧
 (nm r105 ≠ 0 → wp_X8_in (nm x3) 0 8 s105 (fun r107 s107 => (nm r107 ≠ 0 → wp_X8_withKey x2 12 s107 (fun r108 s108 => (nm r108 = nm (-1) → (nm x2 = 0 → wp_X8_set_177 po x1 x2 x3 x4 s108) ∧
 (nm x2 ≠ 0 → (nm (zand x4 512) ≠ 0 → wp_X8_set_177 po x1 x2 x3 x4 s108) ∧
 (nm (zand x4 512) = 0 → wp_X8_tells x1 (-8) s108 (fun r114 s119 => po r114 s119)))) ∧
 (nm r108 ≠ nm (-1) → (nm (zand x4 1536) ≠ nm 1536 → (0 ≤ nm (r108 - 12) ∧ nm (r108 - 12) < 12) ∧ (nm x3 ≤ nm (gI s108 110 38 (nm (r108 - 12)).toNat) → wp_X8_wanted x4 s108 (fun r115 s120 => wp_X8_hasAll x1 r108 r115 s120 (fun r116 s121 => (nm r116 = 0 → wp_X8_tells x1 (-6) s121 (fun r117 s122 => po r117 s122)) ∧
 (nm r116 ≠ 0 → wp_X8_idOf r108 s121 (fun r118 s123 => wp_X8_tells x1 r118 s123 (fun r119 s124 => po r119 s124)))))) ∧
 (nm (gI s108 110 38 (nm (r108 - 12)).toNat) < nm x3 → wp_X8_tells x1 (-5) s108 (fun r120 s125 => po r120 s125))) ∧
 (nm (zand x4 1536) = nm 1536 → wp_X8_tells x1 (-7) s108 (fun r121 s126 => po r121 s126))))) ∧
 (nm r107 = 0 → wp_X8_tells x1 (-4) s107 (fun r122 s127 => po r122 s127)))))))) ∧
 (nm r102 = 0 → po (-3) s102))) ∧
 (nm r101 = 0 → po (-2) s101))
set_option maxRecDepth 100000 in
set_option maxHeartbeats 4000000 in
theorem c_X8_set (l : Launch) {x1 : Int} {x2 : Int} {x3 : Int} {x4 : Int} {σ : St} {po : Int → St → Prop} (hw : wp_X8_set x1 x2 x3 x4 σ po) : MT l yX8_set cX8_set 9 (some .int) ({ frames := 2, cells := 0, slots := 0, locals := 46 } : Room) [wr 30 (some 0), wi x1, wi x2, wi x3, wi x4] σ (PI po) := by
  refine MT_of (by decide) (Nat.le_of_ble_eq_true rfl) (fun K hL hR hC hM => ?_)
  subst hL
  unfold wp_X8_set at hw
  show J K 0 [some (wr 30 (some 0)), some (wi x1), some (wi x2), some (wi x3), some (wi x4), none, none, none, none] [] σ 0 0
  refine r_aload_n hC dX8_set_0 rfl ?_
  refine r_iload_n hC dX8_set_1 rfl ?_
  refine cl_X8_152 hC (c_X8_isProcess (kL K) hw) (by rw [hR]; decide) (Nat.le_of_ble_eq_true rfl) dX8_set_2 (fun r101 s101 hq => ?_)
  clear hw
  have hw := hq
  clear hq
  refine r_if_ne (tgt := 11) hC dX8_set_5 (by decide) (fun h => ?_) (fun h => ?_)
  · replace hw := hw.1 h
    refine r_aload_n hC dX8_set_11 rfl ?_
    refine r_iload_n hC dX8_set_12 rfl ?_
    refine cl_X8_173 hC (c_X8_isFree (kL K) hw) (by rw [hR]; decide) (Nat.le_of_ble_eq_true rfl) dX8_set_13 (fun r102 s102 hq => ?_)
    clear hw
    have hw := hq
    clear hq
    refine r_if_ne (tgt := 22) hC dX8_set_16 (by decide) (fun h => ?_) (fun h => ?_)
    · replace hw := hw.1 h
      refine r_iload_n hC dX8_set_22 rfl ?_
      refine r_i2l hC dX8_set_23 ?_
      refine r_lconst hC 0 rfl dX8_set_24 ?_
      refine r_ldc2 hC 1000000 (wg 987 (by decide +kernel) (by decide +kernel)) rfl dX8_set_25 ?_
      refine cl_X8_142 hC (c_X8_in (kL K) hw) (by rw [hR]; decide) (Nat.le_of_ble_eq_true rfl) dX8_set_28 (fun r103 s103 hq => ?_)
      clear hw
      have hw := hq
      clear hq
      refine r_if_eq (tgt := 59) hC dX8_set_31 (by decide) (fun h => ?_) (fun h => ?_)
      · replace hw := hw.1 h
        refine r_aload_n hC dX8_set_59 rfl ?_
        refine r_iload_n hC dX8_set_60 rfl ?_
        refine r_bipush hC dX8_set_61 (by decide) ?_
        refine cl_X8_180 hC (c_X8_tells (kL K) hw) (by rw [hR]; decide) (Nat.le_of_ble_eq_true rfl) dX8_set_63 (fun r104 s104 hq => ?_)
        clear hw
        have hw := hq
        clear hq
        exact r_ireturn hC hM ⟨_, rfl, hw⟩ (by rw [hR]; decide) (by rw [hR]; decide) dX8_set_66
      · replace hw := hw.2 h
        refine r_iload hC dX8_set_34 rfl ?_
        refine r_i2l hC dX8_set_36 ?_
        refine r_lconst hC 0 rfl dX8_set_37 ?_
        refine r_ldc2 hC 2047 (wg 988 (by decide +kernel) (by decide +kernel)) rfl dX8_set_38 ?_
        refine cl_X8_142 hC (c_X8_in (kL K) hw) (by rw [hR]; decide) (Nat.le_of_ble_eq_true rfl) dX8_set_41 (fun r105 s105 hq => ?_)
        clear hw
        have hw := hq
        clear hq
        refine r_if_eq (tgt := 59) hC dX8_set_44 (by decide) (fun h => ?_) (fun h => ?_)
        · replace hw := hw.1 h
          refine r_aload_n hC dX8_set_59 rfl ?_
          refine r_iload_n hC dX8_set_60 rfl ?_
          refine r_bipush hC dX8_set_61 (by decide) ?_
          refine cl_X8_180 hC (c_X8_tells (kL K) hw) (by rw [hR]; decide) (Nat.le_of_ble_eq_true rfl) dX8_set_63 (fun r106 s106 hq => ?_)
          clear hw
          have hw := hq
          clear hq
          exact r_ireturn hC hM ⟨_, rfl, hw⟩ (by rw [hR]; decide) (by rw [hR]; decide) dX8_set_66
        · replace hw := hw.2 h
          refine r_iload_n hC dX8_set_47 rfl ?_
          refine r_i2l hC dX8_set_48 ?_
          refine r_lconst hC 0 rfl dX8_set_49 ?_
          refine r_ldc2 hC 8 (wg 1024 (by decide +kernel) (by decide +kernel)) rfl dX8_set_50 ?_
          refine cl_X8_142 hC (c_X8_in (kL K) hw) (by rw [hR]; decide) (Nat.le_of_ble_eq_true rfl) dX8_set_53 (fun r107 s107 hq => ?_)
          clear hw
          have hw := hq
          clear hq
          refine r_if_ne (tgt := 67) hC dX8_set_56 (by decide) (fun h => ?_) (fun h => ?_)
          · replace hw := hw.1 h
            refine r_aload_n hC dX8_set_67 rfl ?_
            refine r_iload_n hC dX8_set_68 rfl ?_
            refine r_bipush hC dX8_set_69 (by decide) ?_
            refine cl_X8_183 hC (c_X8_withKey (kL K) hw) (by rw [hR]; decide) (Nat.le_of_ble_eq_true rfl) dX8_set_71 (fun r108 s108 hq => ?_)
            clear hw
            have hw := hq
            clear hq
            refine r_istore (l' := [_, _, _, _, _, _, _, _, _]) hC dX8_set_74 rfl (by decide) rfl ?_
            refine r_iload hC dX8_set_76 rfl ?_
            refine r_iconst hC dX8_set_78 ?_
            refine r_icmp_eq (tgt := 156) hC dX8_set_79 (by decide) (fun h => ?_) (fun h => ?_)
            · replace hw := hw.1 h
              refine r_iload_n hC dX8_set_156 rfl ?_
              refine r_if_eq (tgt := 177) hC dX8_set_157 (by decide) (fun h => ?_) (fun h => ?_)
              · replace hw := hw.1 h
                exact J.drop2 (j_X8_set_177 hR hC hM x1 x2 x3 x4 s108 hw) ⟨rfl, rfl, rfl, rfl, rfl, trivial⟩
              · replace hw := hw.2 h
                refine r_iload hC dX8_set_160 rfl ?_
                refine r_sipush hC dX8_set_162 (by decide) ?_
                refine r_iand hC dX8_set_165 ?_
                refine r_if_ne (tgt := 177) hC dX8_set_166 (by decide) (fun h => ?_) (fun h => ?_)
                · replace hw := hw.1 h
                  exact J.drop2 (j_X8_set_177 hR hC hM x1 x2 x3 x4 s108 hw) ⟨rfl, rfl, rfl, rfl, rfl, trivial⟩
                · replace hw := hw.2 h
                  refine r_aload_n hC dX8_set_169 rfl ?_
                  refine r_iload_n hC dX8_set_170 rfl ?_
                  refine r_bipush hC dX8_set_171 (by decide) ?_
                  refine cl_X8_180 hC (c_X8_tells (kL K) hw) (by rw [hR]; decide) (Nat.le_of_ble_eq_true rfl) dX8_set_173 (fun r114 s119 hq => ?_)
                  clear hw
                  have hw := hq
                  clear hq
                  exact r_ireturn hC hM ⟨_, rfl, hw⟩ (by rw [hR]; decide) (by rw [hR]; decide) dX8_set_176
            · replace hw := hw.2 h
              refine r_iload hC dX8_set_82 rfl ?_
              refine r_sipush hC dX8_set_84 (by decide) ?_
              refine r_iand hC dX8_set_87 ?_
              refine r_sipush hC dX8_set_88 (by decide) ?_
              refine r_icmp_ne (tgt := 102) hC dX8_set_91 (by decide) (fun h => ?_) (fun h => ?_)
              · replace hw := hw.1 h
                refine r_iload_n hC dX8_set_102 rfl ?_
                refine r_aload_n hC dX8_set_103 rfl ?_
                refine gf_X8_120 hC dX8_set_104 ?_
                refine r_iload hC dX8_set_107 rfl ?_
                refine r_bipush hC dX8_set_109 (by decide) ?_
                refine r_isub hC dX8_set_111 ?_
                refine r_iaload hC rfl (by decide) hw.1 dX8_set_112 ?_
                replace hw := hw.2
                refine r_icmp_le (tgt := 124) hC dX8_set_113 (by decide) (fun h => ?_) (fun h => ?_)
                · replace hw := hw.1 h
                  refine r_aload_n hC dX8_set_124 rfl ?_
                  refine r_iload_n hC dX8_set_125 rfl ?_
                  refine r_aload_n hC dX8_set_126 rfl ?_
                  refine r_iload_n hC dX8_set_127 rfl ?_
                  refine r_iload hC dX8_set_128 rfl ?_
                  refine r_iload hC dX8_set_130 rfl ?_
                  refine cl_X8_186 hC (c_X8_wanted (kL K) hw) (by rw [hR]; decide) (Nat.le_of_ble_eq_true rfl) dX8_set_132 (fun r115 s120 hq => ?_)
                  clear hw
                  have hw := hq
                  clear hq
                  refine cl_X8_190 hC (c_X8_hasAll (kL K) hw) (by rw [hR]; decide) (Nat.le_of_ble_eq_true rfl) dX8_set_135 (fun r116 s121 hq => ?_)
                  clear hw
                  have hw := hq
                  clear hq
                  refine r_if_eq (tgt := 150) hC dX8_set_138 (by decide) (fun h => ?_) (fun h => ?_)
                  · replace hw := hw.1 h
                    refine r_bipush hC dX8_set_150 (by decide) ?_
                    refine cl_X8_180 hC (c_X8_tells (kL K) hw) (by rw [hR]; decide) (Nat.le_of_ble_eq_true rfl) dX8_set_152 (fun r117 s122 hq => ?_)
                    clear hw
                    have hw := hq
                    clear hq
                    exact r_ireturn hC hM ⟨_, rfl, hw⟩ (by rw [hR]; decide) (by rw [hR]; decide) dX8_set_155
                  · replace hw := hw.2 h
                    refine r_aload_n hC dX8_set_141 rfl ?_
                    refine r_iload hC dX8_set_142 rfl ?_
                    refine cl_X8_194 hC (c_X8_idOf (kL K) hw) (by rw [hR]; decide) (Nat.le_of_ble_eq_true rfl) dX8_set_144 (fun r118 s123 hq => ?_)
                    clear hw
                    have hw := hq
                    clear hq
                    refine r_goto (tgt := 152) hC dX8_set_147 (by decide) ?_
                    refine cl_X8_180 hC (c_X8_tells (kL K) hw) (by rw [hR]; decide) (Nat.le_of_ble_eq_true rfl) dX8_set_152 (fun r119 s124 hq => ?_)
                    clear hw
                    have hw := hq
                    clear hq
                    exact r_ireturn hC hM ⟨_, rfl, hw⟩ (by rw [hR]; decide) (by rw [hR]; decide) dX8_set_155
                · replace hw := hw.2 h
                  refine r_aload_n hC dX8_set_116 rfl ?_
                  refine r_iload_n hC dX8_set_117 rfl ?_
                  refine r_bipush hC dX8_set_118 (by decide) ?_
                  refine cl_X8_180 hC (c_X8_tells (kL K) hw) (by rw [hR]; decide) (Nat.le_of_ble_eq_true rfl) dX8_set_120 (fun r120 s125 hq => ?_)
                  clear hw
                  have hw := hq
                  clear hq
                  exact r_ireturn hC hM ⟨_, rfl, hw⟩ (by rw [hR]; decide) (by rw [hR]; decide) dX8_set_123
              · replace hw := hw.2 h
                refine r_aload_n hC dX8_set_94 rfl ?_
                refine r_iload_n hC dX8_set_95 rfl ?_
                refine r_bipush hC dX8_set_96 (by decide) ?_
                refine cl_X8_180 hC (c_X8_tells (kL K) hw) (by rw [hR]; decide) (Nat.le_of_ble_eq_true rfl) dX8_set_98 (fun r121 s126 hq => ?_)
                clear hw
                have hw := hq
                clear hq
                exact r_ireturn hC hM ⟨_, rfl, hw⟩ (by rw [hR]; decide) (by rw [hR]; decide) dX8_set_101
          · replace hw := hw.2 h
            refine r_aload_n hC dX8_set_59 rfl ?_
            refine r_iload_n hC dX8_set_60 rfl ?_
            refine r_bipush hC dX8_set_61 (by decide) ?_
            refine cl_X8_180 hC (c_X8_tells (kL K) hw) (by rw [hR]; decide) (Nat.le_of_ble_eq_true rfl) dX8_set_63 (fun r122 s127 hq => ?_)
            clear hw
            have hw := hq
            clear hq
            exact r_ireturn hC hM ⟨_, rfl, hw⟩ (by rw [hR]; decide) (by rw [hR]; decide) dX8_set_66
    · replace hw := hw.2 h
      refine r_bipush hC dX8_set_19 (by decide) ?_
      exact r_ireturn hC hM ⟨_, rfl, hw⟩ (by rw [hR]; decide) (by rw [hR]; decide) dX8_set_21
  · replace hw := hw.2 h
    refine r_bipush hC dX8_set_8 (by decide) ?_
    exact r_ireturn hC hM ⟨_, rfl, hw⟩ (by rw [hR]; decide) (by rw [hR]; decide) dX8_set_10
def wp_X8_allBytes_4 (po : Int → St → Prop) : Nat → Int → Int → St → Prop
  | 0, _, _, _ => False
  | n + 1, x1, x2, σ => (nm 12 ≤ nm x2 → po x1 σ) ∧
 (nm x2 < nm 12 → (0 ≤ nm x2 ∧ nm x2 < 24) ∧ (nm (gI σ 110 24 (nm x2).toNat) = 0 → wp_X8_allBytes_4 po n (x1 + 0) (x2 + 1) σ) ∧
 (nm (gI σ 110 24 (nm x2).toNat) ≠ 0 → (0 ≤ nm x2 ∧ nm x2 < 12) ∧ wp_X8_allBytes_4 po n (x1 + (gI σ 110 32 (nm x2).toNat)) (x2 + 1) σ))
set_option maxRecDepth 100000 in
set_option maxHeartbeats 4000000 in
theorem j_X8_allBytes_4 {K : JK} (hR : kRm K = ({ frames := 0, cells := 0, slots := 0, locals := 0 } : Room)) (hC : Cx K cX8_allBytes 3 RX8) {po : Int → St → Prop} (hM : Mx K (some .int) (PI po)) : ∀ (n : Nat) (x1 : Int) (x2 : Int) (σ : St), wp_X8_allBytes_4 po n x1 x2 σ → J K 4 [some (wr 30 (some 0)), some (wi x1), some (wi x2)] [] σ 0 0 := by
  intro n
  induction n with
  | zero =>
    intro x1 x2 σ hw
    exact False.elim hw
  | succ n ih =>
    intro x1 x2 σ hw
    unfold wp_X8_allBytes_4 at hw
    refine r_iload_n hC dX8_allBytes_4 rfl ?_
    refine r_bipush hC dX8_allBytes_5 (by decide) ?_
    refine r_icmp_ge (tgt := 38) hC dX8_allBytes_7 (by decide) (fun h => ?_) (fun h => ?_)
    · replace hw := hw.1 h
      refine r_iload_n hC dX8_allBytes_38 rfl ?_
      exact r_ireturn hC hM ⟨_, rfl, hw⟩ (by rw [hR]; decide) (by rw [hR]; decide) dX8_allBytes_39
    · replace hw := hw.2 h
      refine r_iload_n hC dX8_allBytes_10 rfl ?_
      refine r_aload_n hC dX8_allBytes_11 rfl ?_
      refine gf_X8_78 hC dX8_allBytes_12 ?_
      refine r_iload_n hC dX8_allBytes_15 rfl ?_
      refine r_zaload hC rfl (by decide) hw.1 dX8_allBytes_16 ?_
      replace hw := hw.2
      refine r_if_eq (tgt := 29) hC dX8_allBytes_17 (by decide) (fun h => ?_) (fun h => ?_)
      · replace hw := hw.1 h
        refine r_iconst hC dX8_allBytes_29 ?_
        refine r_iadd hC dX8_allBytes_30 ?_
        refine r_istore_n (l' := [_, _, _]) hC dX8_allBytes_31 rfl (by decide) rfl ?_
        refine r_iinc (l' := [_, _, _]) hC dX8_allBytes_32 rfl rfl (by decide) rfl ?_
        refine r_goto (tgt := 4) hC dX8_allBytes_35 (by decide) ?_
        exact J.drop2 (ih (x1 + 0) (x2 + 1) σ hw) ⟨rfl, rfl, rfl, trivial⟩
      · replace hw := hw.2 h
        refine r_aload_n hC dX8_allBytes_20 rfl ?_
        refine gf_X8_102 hC dX8_allBytes_21 ?_
        refine r_iload_n hC dX8_allBytes_24 rfl ?_
        refine r_iaload hC rfl (by decide) hw.1 dX8_allBytes_25 ?_
        replace hw := hw.2
        refine r_goto (tgt := 30) hC dX8_allBytes_26 (by decide) ?_
        refine r_iadd hC dX8_allBytes_30 ?_
        refine r_istore_n (l' := [_, _, _]) hC dX8_allBytes_31 rfl (by decide) rfl ?_
        refine r_iinc (l' := [_, _, _]) hC dX8_allBytes_32 rfl rfl (by decide) rfl ?_
        refine r_goto (tgt := 4) hC dX8_allBytes_35 (by decide) ?_
        exact J.drop2 (ih (x1 + (gI σ 110 32 (nm x2).toNat)) (x2 + 1) σ hw) ⟨rfl, rfl, rfl, trivial⟩
def wp_X8_allBytes  (σ : St) (po : Int → St → Prop) : Prop := ∃ n9, wp_X8_allBytes_4 po n9 0 0 σ
set_option maxRecDepth 100000 in
set_option maxHeartbeats 4000000 in
theorem c_X8_allBytes (l : Launch)  {σ : St} {po : Int → St → Prop} (hw : wp_X8_allBytes  σ po) : MT l yX8_allBytes cX8_allBytes 3 (some .int) ({ frames := 0, cells := 0, slots := 0, locals := 0 } : Room) [wr 30 (some 0)] σ (PI po) := by
  refine MT_of (by decide) (Nat.le_of_ble_eq_true rfl) (fun K hL hR hC hM => ?_)
  subst hL
  unfold wp_X8_allBytes at hw
  show J K 0 [some (wr 30 (some 0)), none, none] [] σ 0 0
  refine r_iconst hC dX8_allBytes_0 ?_
  refine r_istore_n (l' := [_, _, _]) hC dX8_allBytes_1 rfl (by decide) rfl ?_
  refine r_iconst hC dX8_allBytes_2 ?_
  refine r_istore_n (l' := [_, _, _]) hC dX8_allBytes_3 rfl (by decide) rfl ?_
  obtain ⟨n9, hw⟩ := hw
  exact J.drop2 (j_X8_allBytes_4 hR hC hM n9 0 0 σ hw) ⟨rfl, rfl, rfl, trivial⟩
def wp_X8_fits (x1 : Int) (x2 : Int) (σ : St) (po : Int → St → Prop) : Prop := (0 ≤ nm x1 ∧ nm x1 < 12) ∧ (0 ≤ nm x1 ∧ nm x1 < 12) ∧ (nm (gI σ 110 33 (nm x1).toNat) < nm ((gI σ 110 32 (nm x1).toNat) + x2) → po 0 σ) ∧
 (nm ((gI σ 110 32 (nm x1).toNat) + x2) ≤ nm (gI σ 110 33 (nm x1).toNat) → (0 ≤ nm x1 ∧ nm x1 < 12) ∧ (nm 40 ≤ nm (gI σ 110 34 (nm x1).toNat) → po 0 σ) ∧
 (nm (gI σ 110 34 (nm x1).toNat) < nm 40 → wp_X8_allBytes  σ (fun r101 s101 => (nm 1000 < nm (r101 + x2) → po 0 s101) ∧
 (nm (r101 + x2) ≤ nm 1000 → po 1 s101))))
set_option maxRecDepth 100000 in
set_option maxHeartbeats 4000000 in
theorem c_X8_fits (l : Launch) {x1 : Int} {x2 : Int} {σ : St} {po : Int → St → Prop} (hw : wp_X8_fits x1 x2 σ po) : MT l yX8_fits cX8_fits 3 (some .boolean) ({ frames := 1, cells := 0, slots := 0, locals := 22 } : Room) [wr 30 (some 0), wi x1, wi x2] σ (PI po) := by
  refine MT_of (by decide) (Nat.le_of_ble_eq_true rfl) (fun K hL hR hC hM => ?_)
  subst hL
  unfold wp_X8_fits at hw
  show J K 0 [some (wr 30 (some 0)), some (wi x1), some (wi x2)] [] σ 0 0
  refine r_aload_n hC dX8_fits_0 rfl ?_
  refine gf_X8_102 hC dX8_fits_1 ?_
  refine r_iload_n hC dX8_fits_4 rfl ?_
  refine r_iaload hC rfl (by decide) hw.1 dX8_fits_5 ?_
  replace hw := hw.2
  refine r_iload_n hC dX8_fits_6 rfl ?_
  refine r_iadd hC dX8_fits_7 ?_
  refine r_aload_n hC dX8_fits_8 rfl ?_
  refine gf_X8_105 hC dX8_fits_9 ?_
  refine r_iload_n hC dX8_fits_12 rfl ?_
  refine r_iaload hC rfl (by decide) hw.1 dX8_fits_13 ?_
  replace hw := hw.2
  refine r_icmp_gt (tgt := 44) hC dX8_fits_14 (by decide) (fun h => ?_) (fun h => ?_)
  · replace hw := hw.1 h
    refine r_iconst hC dX8_fits_44 ?_
    exact r_zreturn hC hM (by decide) ⟨_, rfl, hw⟩ (by rw [hR]; decide) (by rw [hR]; decide) dX8_fits_45
  · replace hw := hw.2 h
    refine r_aload_n hC dX8_fits_17 rfl ?_
    refine gf_X8_108 hC dX8_fits_18 ?_
    refine r_iload_n hC dX8_fits_21 rfl ?_
    refine r_iaload hC rfl (by decide) hw.1 dX8_fits_22 ?_
    replace hw := hw.2
    refine r_bipush hC dX8_fits_23 (by decide) ?_
    refine r_icmp_ge (tgt := 44) hC dX8_fits_25 (by decide) (fun h => ?_) (fun h => ?_)
    · replace hw := hw.1 h
      refine r_iconst hC dX8_fits_44 ?_
      exact r_zreturn hC hM (by decide) ⟨_, rfl, hw⟩ (by rw [hR]; decide) (by rw [hR]; decide) dX8_fits_45
    · replace hw := hw.2 h
      refine r_aload_n hC dX8_fits_28 rfl ?_
      refine cl_X8_220 hC (c_X8_allBytes (kL K) hw) (by rw [hR]; decide) (Nat.le_of_ble_eq_true rfl) dX8_fits_29 (fun r101 s101 hq => ?_)
      clear hw
      have hw := hq
      clear hq
      refine r_iload_n hC dX8_fits_32 rfl ?_
      refine r_iadd hC dX8_fits_33 ?_
      refine r_sipush hC dX8_fits_34 (by decide) ?_
      refine r_icmp_gt (tgt := 44) hC dX8_fits_37 (by decide) (fun h => ?_) (fun h => ?_)
      · replace hw := hw.1 h
        refine r_iconst hC dX8_fits_44 ?_
        exact r_zreturn hC hM (by decide) ⟨_, rfl, hw⟩ (by rw [hR]; decide) (by rw [hR]; decide) dX8_fits_45
      · replace hw := hw.2 h
        refine r_iconst hC dX8_fits_40 ?_
        refine r_goto (tgt := 45) hC dX8_fits_41 (by decide) ?_
        exact r_zreturn hC hM (by decide) ⟨_, rfl, hw⟩ (by rw [hR]; decide) (by rw [hR]; decide) dX8_fits_45
def wp_X8_wants_38 (po : Int → St → Prop) (x0 : Int) (x2 : Int) (σ : St) : Prop := (nmL 0 ≤ nmL x2 → po 0 σ) ∧
 (nmL x2 < nmL 0 → (nmL 0 < nmL (x0 + x2) → po 0 σ) ∧
 (nmL (x0 + x2) ≤ nmL 0 → po 1 σ))
set_option maxRecDepth 100000 in
set_option maxHeartbeats 4000000 in
theorem j_X8_wants_38 {K : JK} (hR : kRm K = ({ frames := 0, cells := 0, slots := 0, locals := 0 } : Room)) (hC : Cx K cX8_wants 5 RX8) {po : Int → St → Prop} (hM : Mx K (some .boolean) (PI po)) : ∀ (x0 : Int) (x2 : Int) (σ : St), wp_X8_wants_38 po x0 x2 σ → J K 38 [some (wl x0), none, some (wl x2), none, none] [] σ 0 0 := by
  intro x0 x2 σ hw
  unfold wp_X8_wants_38 at hw
  refine r_lload_n hC dX8_wants_38 rfl ?_
  refine r_lconst hC 0 rfl dX8_wants_39 ?_
  refine r_lcmp_ge (tgt := 56) hC dX8_wants_40 dX8_wants_41 (by decide) (fun h => ?_) (fun h => ?_)
  · replace hw := hw.1 h
    refine r_iconst hC dX8_wants_56 ?_
    exact r_zreturn hC hM (by decide) ⟨_, rfl, hw⟩ (by rw [hR]; decide) (by rw [hR]; decide) dX8_wants_57
  · replace hw := hw.2 h
    refine r_lload_n hC dX8_wants_44 rfl ?_
    refine r_lload_n hC dX8_wants_45 rfl ?_
    refine r_ladd hC dX8_wants_46 ?_
    refine r_lconst hC 0 rfl dX8_wants_47 ?_
    refine r_lcmp_gt (tgt := 56) hC dX8_wants_48 dX8_wants_49 (by decide) (fun h => ?_) (fun h => ?_)
    · replace hw := hw.1 h
      refine r_iconst hC dX8_wants_56 ?_
      exact r_zreturn hC hM (by decide) ⟨_, rfl, hw⟩ (by rw [hR]; decide) (by rw [hR]; decide) dX8_wants_57
    · replace hw := hw.2 h
      refine r_iconst hC dX8_wants_52 ?_
      refine r_goto (tgt := 57) hC dX8_wants_53 (by decide) ?_
      exact r_zreturn hC hM (by decide) ⟨_, rfl, hw⟩ (by rw [hR]; decide) (by rw [hR]; decide) dX8_wants_57
def wp_X8_wants_23 (po : Int → St → Prop) (x0 : Int) (x2 : Int) (x4 : Int) (y0 : Int) (σ : St) : Prop := (nm (zand x4 4) ≠ 0 → (nm y0 = nm 0 → po 1 σ) ∧
 (nm y0 ≠ nm 0 → wp_X8_wants_38 po x0 x2 σ)) ∧
 (nm (zand x4 4) = 0 → (nm y0 = nm 1 → po 1 σ) ∧
 (nm y0 ≠ nm 1 → wp_X8_wants_38 po x0 x2 σ))
set_option maxRecDepth 100000 in
set_option maxHeartbeats 4000000 in
theorem j_X8_wants_23 {K : JK} (hR : kRm K = ({ frames := 0, cells := 0, slots := 0, locals := 0 } : Room)) (hC : Cx K cX8_wants 5 RX8) {po : Int → St → Prop} (hM : Mx K (some .boolean) (PI po)) : ∀ (x0 : Int) (x2 : Int) (x4 : Int) (y0 : Int) (σ : St), wp_X8_wants_23 po x0 x2 x4 y0 σ → J K 23 [some (wl x0), none, some (wl x2), none, some (wi x4)] [wi y0] σ 0 0 := by
  intro x0 x2 x4 y0 σ hw
  unfold wp_X8_wants_23 at hw
  refine r_iload hC dX8_wants_23 rfl ?_
  refine r_iconst hC dX8_wants_25 ?_
  refine r_iand hC dX8_wants_26 ?_
  refine r_if_ne (tgt := 34) hC dX8_wants_27 (by decide) (fun h => ?_) (fun h => ?_)
  · replace hw := hw.1 h
    refine r_iconst hC dX8_wants_34 ?_
    refine r_icmp_eq (tgt := 52) hC dX8_wants_35 (by decide) (fun h => ?_) (fun h => ?_)
    · replace hw := hw.1 h
      refine r_iconst hC dX8_wants_52 ?_
      refine r_goto (tgt := 57) hC dX8_wants_53 (by decide) ?_
      exact r_zreturn hC hM (by decide) ⟨_, rfl, hw⟩ (by rw [hR]; decide) (by rw [hR]; decide) dX8_wants_57
    · replace hw := hw.2 h
      exact J.drop2 (j_X8_wants_38 hR hC hM x0 x2 σ hw) ⟨rfl, rfl, trivial⟩
  · replace hw := hw.2 h
    refine r_iconst hC dX8_wants_30 ?_
    refine r_goto (tgt := 35) hC dX8_wants_31 (by decide) ?_
    refine r_icmp_eq (tgt := 52) hC dX8_wants_35 (by decide) (fun h => ?_) (fun h => ?_)
    · replace hw := hw.1 h
      refine r_iconst hC dX8_wants_52 ?_
      refine r_goto (tgt := 57) hC dX8_wants_53 (by decide) ?_
      exact r_zreturn hC hM (by decide) ⟨_, rfl, hw⟩ (by rw [hR]; decide) (by rw [hR]; decide) dX8_wants_57
    · replace hw := hw.2 h
      exact J.drop2 (j_X8_wants_38 hR hC hM x0 x2 σ hw) ⟨rfl, rfl, trivial⟩
def wp_X8_wants (x1 : Int) (x2 : Int) (x3 : Int) (σ : St) (po : Int → St → Prop) : Prop := (nmL x2 = nmL 0 → po 1 σ) ∧
 (nmL x2 ≠ nmL 0 → (nmL x2 ≤ nmL 0 → wp_X8_wants_38 po x1 x2 σ) ∧
 (nmL 0 < nmL x2 → (nmL x1 ≠ nmL x2 → wp_X8_wants_23 po x1 x2 x3 0 σ) ∧
 (nmL x1 = nmL x2 → wp_X8_wants_23 po x1 x2 x3 1 σ)))
set_option maxRecDepth 100000 in
set_option maxHeartbeats 4000000 in
theorem c_X8_wants (l : Launch) {x1 : Int} {x2 : Int} {x3 : Int} {σ : St} {po : Int → St → Prop} (hw : wp_X8_wants x1 x2 x3 σ po) : MT l yX8_wants cX8_wants 5 (some .boolean) ({ frames := 0, cells := 0, slots := 0, locals := 0 } : Room) [wl x1, wl x2, wi x3] σ (PI po) := by
  refine MT_of (by decide) (Nat.le_of_ble_eq_true rfl) (fun K hL hR hC hM => ?_)
  subst hL
  unfold wp_X8_wants at hw
  show J K 0 [some (wl x1), none, some (wl x2), none, some (wi x3)] [] σ 0 0
  refine r_lload_n hC dX8_wants_0 rfl ?_
  refine r_lconst hC 0 rfl dX8_wants_1 ?_
  refine r_lcmp_eq (tgt := 52) hC dX8_wants_2 dX8_wants_3 (by decide) (fun h => ?_) (fun h => ?_)
  · replace hw := hw.1 h
    refine r_iconst hC dX8_wants_52 ?_
    refine r_goto (tgt := 57) hC dX8_wants_53 (by decide) ?_
    exact r_zreturn hC hM (by decide) ⟨_, rfl, hw⟩ (by rw [hR]; decide) (by rw [hR]; decide) dX8_wants_57
  · replace hw := hw.2 h
    refine r_lload_n hC dX8_wants_6 rfl ?_
    refine r_lconst hC 0 rfl dX8_wants_7 ?_
    refine r_lcmp_le (tgt := 38) hC dX8_wants_8 dX8_wants_9 (by decide) (fun h => ?_) (fun h => ?_)
    · replace hw := hw.1 h
      exact J.drop2 (j_X8_wants_38 hR hC hM x1 x2 σ hw) ⟨rfl, rfl, trivial⟩
    · replace hw := hw.2 h
      refine r_lload_n hC dX8_wants_12 rfl ?_
      refine r_lload_n hC dX8_wants_13 rfl ?_
      refine r_lcmp_ne (tgt := 22) hC dX8_wants_14 dX8_wants_15 (by decide) (fun h => ?_) (fun h => ?_)
      · replace hw := hw.1 h
        refine r_iconst hC dX8_wants_22 ?_
        exact J.drop2 (j_X8_wants_23 hR hC hM x1 x2 x3 0 σ hw) ⟨rfl, rfl, rfl, trivial⟩
      · replace hw := hw.2 h
        refine r_iconst hC dX8_wants_18 ?_
        refine r_goto (tgt := 23) hC dX8_wants_19 (by decide) ?_
        exact J.drop2 (j_X8_wants_23 hR hC hM x1 x2 x3 1 σ hw) ⟨rfl, rfl, rfl, trivial⟩
def wp_X8_give_19 (po : St → Prop) : Nat → Int → Int → Nat → Option Nat → Int → Int → Int → St → Prop
  | 0, _, _, _, _, _, _, _, _ => False
  | n + 1, x1, x2, k5, o5, x6, x8, x9, σ => (nm x8 ≤ nm x9 → (0 ≤ nm x1 ∧ nm x1 < 16) ∧ ∀ s101, s101 = uL σ 110 6 (nm x1).toNat x2 → (0 ≤ nm x1 ∧ nm x1 < 16) ∧ ∀ s102, s102 = uI s101 110 4 (nm x1).toNat x8 → po s102) ∧
 (nm x9 < nm x8 → ∃ a101, o5 = some a101 ∧ aTy k5 a101 = 1 ∧ (0 ≤ nm (x6 + x9) ∧ nm (x6 + x9) < (aLen k5 a101 : Int)) ∧ (0 ≤ nm ((64 * x1) + x9) ∧ nm ((64 * x1) + x9) < 1024) ∧ ∀ s103, s103 = uI σ 110 5 (nm ((64 * x1) + x9)).toNat (gI σ (aFd k5) a101 (nm (x6 + x9)).toNat) → wp_X8_give_19 po n x1 x2 k5 (some a101) x6 x8 (x9 + 1) s103)
set_option maxRecDepth 100000 in
set_option maxHeartbeats 4000000 in
theorem j_X8_give_19 {K : JK} (hR : kRm K = ({ frames := 0, cells := 0, slots := 0, locals := 0 } : Room)) (hC : Cx K cX8_give 10 RX8) {po : St → Prop} (hM : Mx K none (PV po)) : ∀ (n : Nat) (x1 : Int) (x2 : Int) (k5 : Nat) (o5 : Option Nat) (x6 : Int) (x8 : Int) (x9 : Int) (σ : St), wp_X8_give_19 po n x1 x2 k5 o5 x6 x8 x9 σ → J K 19 [some (wr 30 (some 0)), some (wi x1), some (wl x2), none, none, some (wr k5 o5), some (wi x6), none, some (wi x8), some (wi x9)] [] σ 0 0 := by
  intro n
  induction n with
  | zero =>
    intro x1 x2 k5 o5 x6 x8 x9 σ hw
    exact False.elim hw
  | succ n ih =>
    intro x1 x2 k5 o5 x6 x8 x9 σ hw
    unfold wp_X8_give_19 at hw
    refine r_iload hC dX8_give_19 rfl ?_
    refine r_iload hC dX8_give_21 rfl ?_
    refine r_icmp_ge (tgt := 52) hC dX8_give_23 (by decide) (fun h => ?_) (fun h => ?_)
    · replace hw := hw.1 h
      refine r_aload_n hC dX8_give_52 rfl ?_
      refine gf_X8_26 hC dX8_give_53 ?_
      refine r_iload_n hC dX8_give_56 rfl ?_
      refine r_lload_n hC dX8_give_57 rfl ?_
      refine r_lastore hC rfl (by decide) hw.1 dX8_give_58 (fun s101 e9 => ?_)
      replace hw := hw.2 s101 e9
      clear e9
      refine r_aload_n hC dX8_give_59 rfl ?_
      refine gf_X8_20 hC dX8_give_60 ?_
      refine r_iload_n hC dX8_give_63 rfl ?_
      refine r_iload hC dX8_give_64 rfl ?_
      refine r_iastore hC rfl (by decide) hw.1 dX8_give_66 (fun s102 e9 => ?_)
      replace hw := hw.2 s102 e9
      clear e9
      exact r_vreturn hC hM ⟨rfl, hw⟩ (by rw [hR]; decide) (by rw [hR]; decide) dX8_give_67
    · replace hw := hw.2 h
      refine r_aload_n hC dX8_give_26 rfl ?_
      refine gf_X8_23 hC dX8_give_27 ?_
      refine r_bipush hC dX8_give_30 (by decide) ?_
      refine r_iload_n hC dX8_give_32 rfl ?_
      refine r_imul hC dX8_give_33 ?_
      refine r_iload hC dX8_give_34 rfl ?_
      refine r_iadd hC dX8_give_36 ?_
      refine r_aload hC dX8_give_37 rfl ?_
      refine r_iload hC dX8_give_39 rfl ?_
      refine r_iload hC dX8_give_41 rfl ?_
      refine r_iadd hC dX8_give_43 ?_
      obtain ⟨a101, rfl, hw⟩ := hw
      refine r_iaload hC hw.1 (aTy1_ne50 hw.1) hw.2.1 dX8_give_44 ?_
      replace hw := hw.2.2
      refine r_iastore hC rfl (by decide) hw.1 dX8_give_45 (fun s103 e9 => ?_)
      replace hw := hw.2 s103 e9
      clear e9
      refine r_iinc (l' := [_, _, _, _, _, _, _, _, _, _]) hC dX8_give_46 rfl rfl (by decide) rfl ?_
      refine r_goto (tgt := 19) hC dX8_give_49 (by decide) ?_
      exact J.drop2 (ih x1 x2 k5 (some a101) x6 x8 (x9 + 1) s103 hw) ⟨rfl, rfl, rfl, rfl, rfl, rfl, rfl, trivial⟩
def wp_X8_give (x1 : Int) (x2 : Int) (x3 : Int) (k4 : Nat) (o4 : Option Nat) (x5 : Int) (x6 : Int) (σ : St) (po : St → Prop) : Prop := (nm x6 ≤ nm x3 → ∃ n9, wp_X8_give_19 po n9 x1 x2 k4 o4 x5 x6 0 σ) ∧
 (nm x3 < nm x6 → ∃ n9, wp_X8_give_19 po n9 x1 x2 k4 o4 x5 x3 0 σ)
set_option maxRecDepth 100000 in
set_option maxHeartbeats 4000000 in
theorem c_X8_give (l : Launch) {x1 : Int} {x2 : Int} {x3 : Int} {k4 : Nat} {o4 : Option Nat} {x5 : Int} {x6 : Int} {σ : St} {po : St → Prop} (hw : wp_X8_give x1 x2 x3 k4 o4 x5 x6 σ po) : MT l yX8_give cX8_give 10 none ({ frames := 0, cells := 0, slots := 0, locals := 0 } : Room) [wr 30 (some 0), wi x1, wl x2, wi x3, wr k4 o4, wi x5, wi x6] σ (PV po) := by
  refine MT_of (by decide) (Nat.le_of_ble_eq_true rfl) (fun K hL hR hC hM => ?_)
  subst hL
  unfold wp_X8_give at hw
  show J K 0 [some (wr 30 (some 0)), some (wi x1), some (wl x2), none, some (wi x3), some (wr k4 o4), some (wi x5), some (wi x6), none, none] [] σ 0 0
  refine r_iload hC dX8_give_0 rfl ?_
  refine r_iload hC dX8_give_2 rfl ?_
  refine r_icmp_ge (tgt := 12) hC dX8_give_4 (by decide) (fun h => ?_) (fun h => ?_)
  · replace hw := hw.1 h
    refine r_iload hC dX8_give_12 rfl ?_
    refine r_istore (l' := [_, _, _, _, _, _, _, _, _, _]) hC dX8_give_14 rfl (by decide) rfl ?_
    refine r_iconst hC dX8_give_16 ?_
    refine r_istore (l' := [_, _, _, _, _, _, _, _, _, _]) hC dX8_give_17 rfl (by decide) rfl ?_
    obtain ⟨n9, hw⟩ := hw
    exact J.drop2 (j_X8_give_19 hR hC hM n9 x1 x2 k4 o4 x5 x6 0 σ hw) ⟨rfl, rfl, rfl, rfl, rfl, rfl, rfl, trivial⟩
  · replace hw := hw.2 h
    refine r_iload hC dX8_give_7 rfl ?_
    refine r_goto (tgt := 14) hC dX8_give_9 (by decide) ?_
    refine r_istore (l' := [_, _, _, _, _, _, _, _, _, _]) hC dX8_give_14 rfl (by decide) rfl ?_
    refine r_iconst hC dX8_give_16 ?_
    refine r_istore (l' := [_, _, _, _, _, _, _, _, _, _]) hC dX8_give_17 rfl (by decide) rfl ?_
    obtain ⟨n9, hw⟩ := hw
    exact J.drop2 (j_X8_give_19 hR hC hM n9 x1 x2 k4 o4 x5 x3 0 σ hw) ⟨rfl, rfl, rfl, rfl, rfl, rfl, rfl, trivial⟩
def wp_X8_isSent_183 (po : Int → St → Prop) : Nat → Int → Int → Int → Int → Int → St → Prop
  | 0, _, _, _, _, _, _ => False
  | n + 1, x1, x2, x5, x6, x7, σ => (nm x5 ≤ nm x7 → (0 ≤ nm x1 ∧ nm x1 < 12) ∧ (0 ≤ nm x1 ∧ nm x1 < 12) ∧ ∀ s105, s105 = uI σ 110 34 (nm x1).toNat ((gI σ 110 34 (nm x1).toNat) + 1) → (0 ≤ nm x1 ∧ nm x1 < 12) ∧ (0 ≤ nm x1 ∧ nm x1 < 12) ∧ ∀ s106, s106 = uI s105 110 32 (nm x1).toNat ((gI s105 110 32 (nm x1).toNat) + x5) → po 1 s106) ∧
 (nm x7 < nm x5 → (0 ≤ nm ((64 * x2) + x7) ∧ nm ((64 * x2) + x7) < 1024) ∧ (0 ≤ nm ((64 * x6) + x7) ∧ nm ((64 * x6) + x7) < 30720) ∧ ∀ s107, s107 = uI σ 110 37 (nm ((64 * x6) + x7)).toNat (gI σ 110 13 (nm ((64 * x2) + x7)).toNat) → wp_X8_isSent_183 po n x1 x2 x5 x6 (x7 + 1) s107)
set_option maxRecDepth 100000 in
set_option maxHeartbeats 4000000 in
theorem j_X8_isSent_183 {K : JK} (hR : kRm K = ({ frames := 2, cells := 0, slots := 0, locals := 44 } : Room)) (hC : Cx K cX8_isSent 8 RX8) {po : Int → St → Prop} (hM : Mx K (some .boolean) (PI po)) : ∀ (n : Nat) (x1 : Int) (x2 : Int) (x5 : Int) (x6 : Int) (x7 : Int) (σ : St), wp_X8_isSent_183 po n x1 x2 x5 x6 x7 σ → J K 183 [some (wr 30 (some 0)), some (wi x1), some (wi x2), none, none, some (wi x5), some (wi x6), some (wi x7)] [] σ 0 0 := by
  intro n
  induction n with
  | zero =>
    intro x1 x2 x5 x6 x7 σ hw
    exact False.elim hw
  | succ n ih =>
    intro x1 x2 x5 x6 x7 σ hw
    unfold wp_X8_isSent_183 at hw
    refine r_iload hC dX8_isSent_183 rfl ?_
    refine r_iload hC dX8_isSent_185 rfl ?_
    refine r_icmp_ge (tgt := 221) hC dX8_isSent_187 (by decide) (fun h => ?_) (fun h => ?_)
    · replace hw := hw.1 h
      refine r_aload_n hC dX8_isSent_221 rfl ?_
      refine gf_X8_108 hC dX8_isSent_222 ?_
      refine r_iload_n hC dX8_isSent_225 rfl ?_
      refine r_dup2 hC dX8_isSent_226 rfl rfl ?_
      refine r_iaload hC rfl (by decide) hw.1 dX8_isSent_227 ?_
      replace hw := hw.2
      refine r_iconst hC dX8_isSent_228 ?_
      refine r_iadd hC dX8_isSent_229 ?_
      refine r_iastore hC rfl (by decide) hw.1 dX8_isSent_230 (fun s105 e9 => ?_)
      replace hw := hw.2 s105 e9
      clear e9
      refine r_aload_n hC dX8_isSent_231 rfl ?_
      refine gf_X8_102 hC dX8_isSent_232 ?_
      refine r_iload_n hC dX8_isSent_235 rfl ?_
      refine r_dup2 hC dX8_isSent_236 rfl rfl ?_
      refine r_iaload hC rfl (by decide) hw.1 dX8_isSent_237 ?_
      replace hw := hw.2
      refine r_iload hC dX8_isSent_238 rfl ?_
      refine r_iadd hC dX8_isSent_240 ?_
      refine r_iastore hC rfl (by decide) hw.1 dX8_isSent_241 (fun s106 e9 => ?_)
      replace hw := hw.2 s106 e9
      clear e9
      refine r_iconst hC dX8_isSent_242 ?_
      exact r_zreturn hC hM (by decide) ⟨_, rfl, hw⟩ (by rw [hR]; decide) (by rw [hR]; decide) dX8_isSent_243
    · replace hw := hw.2 h
      refine r_aload_n hC dX8_isSent_190 rfl ?_
      refine gf_X8_117 hC dX8_isSent_191 ?_
      refine r_bipush hC dX8_isSent_194 (by decide) ?_
      refine r_iload hC dX8_isSent_196 rfl ?_
      refine r_imul hC dX8_isSent_198 ?_
      refine r_iload hC dX8_isSent_199 rfl ?_
      refine r_iadd hC dX8_isSent_201 ?_
      refine r_aload_n hC dX8_isSent_202 rfl ?_
      refine gf_X8_48 hC dX8_isSent_203 ?_
      refine r_bipush hC dX8_isSent_206 (by decide) ?_
      refine r_iload_n hC dX8_isSent_208 rfl ?_
      refine r_imul hC dX8_isSent_209 ?_
      refine r_iload hC dX8_isSent_210 rfl ?_
      refine r_iadd hC dX8_isSent_212 ?_
      refine r_iaload hC rfl (by decide) hw.1 dX8_isSent_213 ?_
      replace hw := hw.2
      refine r_iastore hC rfl (by decide) hw.1 dX8_isSent_214 (fun s107 e9 => ?_)
      replace hw := hw.2 s107 e9
      clear e9
      refine r_iinc (l' := [_, _, _, _, _, _, _, _]) hC dX8_isSent_215 rfl rfl (by decide) rfl ?_
      refine r_goto (tgt := 183) hC dX8_isSent_218 (by decide) ?_
      exact J.drop2 (ih x1 x2 x5 x6 (x7 + 1) s107 hw) ⟨rfl, rfl, rfl, rfl, rfl, rfl, trivial⟩
def wp_X8_isSent_86 (po : Int → St → Prop) (x2 : Int) (x3 : Int) (x5 : Int) (x6 : Int) (σ : St) : Prop := (0 ≤ nm x6 ∧ nm x6 < 16) ∧ ∀ s110, s110 = uI σ 110 7 (nm x6).toNat 0 → (0 ≤ nm x6 ∧ nm x6 < 16) ∧ wp_X8_give x6 x3 x5 31 (some 13) (64 * x2) (gI s110 110 11 (nm x6).toNat) s110 (fun s111 => po 1 s111)
set_option maxRecDepth 100000 in
set_option maxHeartbeats 4000000 in
theorem j_X8_isSent_86 {K : JK} (hR : kRm K = ({ frames := 2, cells := 0, slots := 0, locals := 44 } : Room)) (hC : Cx K cX8_isSent 8 RX8) {po : Int → St → Prop} (hM : Mx K (some .boolean) (PI po)) : ∀ (x2 : Int) (x3 : Int) (x5 : Int) (x6 : Int) (σ : St), wp_X8_isSent_86 po x2 x3 x5 x6 σ → J K 86 [some (wr 30 (some 0)), none, some (wi x2), some (wl x3), none, some (wi x5), some (wi x6), none] [] σ 0 0 := by
  intro x2 x3 x5 x6 σ hw
  unfold wp_X8_isSent_86 at hw
  refine r_aload_n hC dX8_isSent_86 rfl ?_
  refine gf_X8_30 hC dX8_isSent_87 ?_
  refine r_iload hC dX8_isSent_90 rfl ?_
  refine r_iconst hC dX8_isSent_92 ?_
  refine r_iastore hC rfl (by decide) hw.1 dX8_isSent_93 (fun s110 e9 => ?_)
  replace hw := hw.2 s110 e9
  clear e9
  refine r_aload_n hC dX8_isSent_94 rfl ?_
  refine r_iload hC dX8_isSent_95 rfl ?_
  refine r_lload_n hC dX8_isSent_97 rfl ?_
  refine r_iload hC dX8_isSent_98 rfl ?_
  refine r_aload_n hC dX8_isSent_100 rfl ?_
  refine gf_X8_48 hC dX8_isSent_101 ?_
  refine r_bipush hC dX8_isSent_104 (by decide) ?_
  refine r_iload_n hC dX8_isSent_106 rfl ?_
  refine r_imul hC dX8_isSent_107 ?_
  refine r_aload_n hC dX8_isSent_108 rfl ?_
  refine gf_X8_42 hC dX8_isSent_109 ?_
  refine r_iload hC dX8_isSent_112 rfl ?_
  refine r_iaload hC rfl (by decide) hw.1 dX8_isSent_114 ?_
  replace hw := hw.2
  refine cl_X8_232 hC (c_X8_give (kL K) hw) (by rw [hR]; decide) (Nat.le_of_ble_eq_true rfl) dX8_isSent_115 (fun s111 hq => ?_)
  clear hw
  have hw := hq
  clear hq
  refine r_iconst hC dX8_isSent_118 ?_
  exact r_zreturn hC hM (by decide) ⟨_, rfl, hw⟩ (by rw [hR]; decide) (by rw [hR]; decide) dX8_isSent_119
def wp_X8_isSent_24 (po : Int → St → Prop) : Nat → Int → Int → Int → Int → Int → St → Prop
  | 0, _, _, _, _, _, _ => False
  | n + 1, x1, x2, x3, x5, x6, σ => (nm x6 = nm (-1) → wp_X8_fits x1 x5 σ (fun r102 s102 => (nm r102 ≠ 0 → (0 ≤ nm x1 ∧ nm x1 < 12) ∧ (0 ≤ nm ((40 * x1) + (gI s102 110 34 (nm x1).toNat)) ∧ nm ((40 * x1) + (gI s102 110 34 (nm x1).toNat)) < 480) ∧ ∀ s103, s103 = uL s102 110 35 (nm ((40 * x1) + (gI s102 110 34 (nm x1).toNat))).toNat x3 → (0 ≤ nm ((40 * x1) + (gI s102 110 34 (nm x1).toNat)) ∧ nm ((40 * x1) + (gI s102 110 34 (nm x1).toNat)) < 480) ∧ ∀ s104, s104 = uI s103 110 36 (nm ((40 * x1) + (gI s102 110 34 (nm x1).toNat))).toNat x5 → ∃ n9, wp_X8_isSent_183 po n9 x1 x2 x5 ((40 * x1) + (gI s102 110 34 (nm x1).toNat)) 0 s104) ∧
 (nm r102 = 0 → po 0 s102))) ∧
 (nm x6 ≠ nm (-1) → (0 ≤ nm x6 ∧ nm x6 < 16) ∧ (0 ≤ nm x6 ∧ nm x6 < 16) ∧ wp_X8_wants x3 (gL σ 110 10 (nm x6).toNat) (gI σ 110 12 (nm x6).toNat) σ (fun r103 s108 => (nm r103 = 0 → (0 ≤ nm x6 ∧ nm x6 < 16) ∧ wp_X8_waiter 2 x1 (gI s108 110 8 (nm x6).toNat) s108 (fun r104 s109 => wp_X8_isSent_24 po n x1 x2 x3 x5 r104 s109)) ∧
 (nm r103 ≠ 0 → (0 ≤ nm x6 ∧ nm x6 < 16) ∧ (nm x5 ≤ nm (gI s108 110 11 (nm x6).toNat) → wp_X8_isSent_86 po x2 x3 x5 x6 s108) ∧
 (nm (gI s108 110 11 (nm x6).toNat) < nm x5 → (0 ≤ nm x6 ∧ nm x6 < 16) ∧ (nm (zand (gI s108 110 12 (nm x6).toNat) 2) ≠ 0 → wp_X8_isSent_86 po x2 x3 x5 x6 s108) ∧
 (nm (zand (gI s108 110 12 (nm x6).toNat) 2) = 0 → wp_X8_goesOn x6 (-13) s108 (fun s112 => (0 ≤ nm x6 ∧ nm x6 < 16) ∧ wp_X8_waiter 2 x1 (gI s112 110 8 (nm x6).toNat) s112 (fun r105 s113 => wp_X8_isSent_24 po n x1 x2 x3 x5 r105 s113)))))))
set_option maxRecDepth 100000 in
set_option maxHeartbeats 4000000 in
theorem j_X8_isSent_24 {K : JK} (hR : kRm K = ({ frames := 2, cells := 0, slots := 0, locals := 44 } : Room)) (hC : Cx K cX8_isSent 8 RX8) {po : Int → St → Prop} (hM : Mx K (some .boolean) (PI po)) : ∀ (n : Nat) (x1 : Int) (x2 : Int) (x3 : Int) (x5 : Int) (x6 : Int) (σ : St), wp_X8_isSent_24 po n x1 x2 x3 x5 x6 σ → J K 24 [some (wr 30 (some 0)), some (wi x1), some (wi x2), some (wl x3), none, some (wi x5), some (wi x6), none] [] σ 0 0 := by
  intro n
  induction n with
  | zero =>
    intro x1 x2 x3 x5 x6 σ hw
    exact False.elim hw
  | succ n ih =>
    intro x1 x2 x3 x5 x6 σ hw
    unfold wp_X8_isSent_24 at hw
    refine r_iload hC dX8_isSent_24 rfl ?_
    refine r_iconst hC dX8_isSent_26 ?_
    refine r_icmp_eq (tgt := 138) hC dX8_isSent_27 (by decide) (fun h => ?_) (fun h => ?_)
    · replace hw := hw.1 h
      refine r_aload_n hC dX8_isSent_138 rfl ?_
      refine r_iload_n hC dX8_isSent_139 rfl ?_
      refine r_iload hC dX8_isSent_140 rfl ?_
      refine cl_X8_236 hC (c_X8_fits (kL K) hw) (by rw [hR]; decide) (Nat.le_of_ble_eq_true rfl) dX8_isSent_142 (fun r102 s102 hq => ?_)
      clear hw
      have hw := hq
      clear hq
      refine r_if_ne (tgt := 150) hC dX8_isSent_145 (by decide) (fun h => ?_) (fun h => ?_)
      · replace hw := hw.1 h
        refine r_bipush hC dX8_isSent_150 (by decide) ?_
        refine r_iload_n hC dX8_isSent_152 rfl ?_
        refine r_imul hC dX8_isSent_153 ?_
        refine r_aload_n hC dX8_isSent_154 rfl ?_
        refine gf_X8_108 hC dX8_isSent_155 ?_
        refine r_iload_n hC dX8_isSent_158 rfl ?_
        refine r_iaload hC rfl (by decide) hw.1 dX8_isSent_159 ?_
        replace hw := hw.2
        refine r_iadd hC dX8_isSent_160 ?_
        refine r_istore (l' := [_, _, _, _, _, _, _, _]) hC dX8_isSent_161 rfl (by decide) rfl ?_
        refine r_aload_n hC dX8_isSent_163 rfl ?_
        refine gf_X8_111 hC dX8_isSent_164 ?_
        refine r_iload hC dX8_isSent_167 rfl ?_
        refine r_lload_n hC dX8_isSent_169 rfl ?_
        refine r_lastore hC rfl (by decide) hw.1 dX8_isSent_170 (fun s103 e9 => ?_)
        replace hw := hw.2 s103 e9
        clear e9
        refine r_aload_n hC dX8_isSent_171 rfl ?_
        refine gf_X8_114 hC dX8_isSent_172 ?_
        refine r_iload hC dX8_isSent_175 rfl ?_
        refine r_iload hC dX8_isSent_177 rfl ?_
        refine r_iastore hC rfl (by decide) hw.1 dX8_isSent_179 (fun s104 e9 => ?_)
        replace hw := hw.2 s104 e9
        clear e9
        refine r_iconst hC dX8_isSent_180 ?_
        refine r_istore (l' := [_, _, _, _, _, _, _, _]) hC dX8_isSent_181 rfl (by decide) rfl ?_
        obtain ⟨n9, hw⟩ := hw
        exact J.drop2 (j_X8_isSent_183 hR hC hM n9 x1 x2 x5 ((40 * x1) + (gI s102 110 34 (nm x1).toNat)) 0 s104 hw) ⟨rfl, rfl, rfl, rfl, rfl, rfl, trivial⟩
      · replace hw := hw.2 h
        refine r_iconst hC dX8_isSent_148 ?_
        exact r_zreturn hC hM (by decide) ⟨_, rfl, hw⟩ (by rw [hR]; decide) (by rw [hR]; decide) dX8_isSent_149
    · replace hw := hw.2 h
      refine r_lload_n hC dX8_isSent_30 rfl ?_
      refine r_aload_n hC dX8_isSent_31 rfl ?_
      refine gf_X8_39 hC dX8_isSent_32 ?_
      refine r_iload hC dX8_isSent_35 rfl ?_
      refine r_laload hC rfl (by decide) hw.1 dX8_isSent_37 ?_
      replace hw := hw.2
      refine r_aload_n hC dX8_isSent_38 rfl ?_
      refine gf_X8_45 hC dX8_isSent_39 ?_
      refine r_iload hC dX8_isSent_42 rfl ?_
      refine r_iaload hC rfl (by decide) hw.1 dX8_isSent_44 ?_
      replace hw := hw.2
      refine cl_X8_228 hC (c_X8_wants (kL K) hw) (by rw [hR]; decide) (Nat.le_of_ble_eq_true rfl) dX8_isSent_45 (fun r103 s108 hq => ?_)
      clear hw
      have hw := hq
      clear hq
      refine r_if_eq (tgt := 120) hC dX8_isSent_48 (by decide) (fun h => ?_) (fun h => ?_)
      · replace hw := hw.1 h
        refine r_aload_n hC dX8_isSent_120 rfl ?_
        refine r_iconst hC dX8_isSent_121 ?_
        refine r_iload_n hC dX8_isSent_122 rfl ?_
        refine r_aload_n hC dX8_isSent_123 rfl ?_
        refine gf_X8_33 hC dX8_isSent_124 ?_
        refine r_iload hC dX8_isSent_127 rfl ?_
        refine r_iaload hC rfl (by decide) hw.1 dX8_isSent_129 ?_
        replace hw := hw.2
        refine cl_X8_224 hC (c_X8_waiter (kL K) hw) (by rw [hR]; decide) (Nat.le_of_ble_eq_true rfl) dX8_isSent_130 (fun r104 s109 hq => ?_)
        clear hw
        have hw := hq
        clear hq
        refine r_istore (l' := [_, _, _, _, _, _, _, _]) hC dX8_isSent_133 rfl (by decide) rfl ?_
        refine r_goto (tgt := 24) hC dX8_isSent_135 (by decide) ?_
        exact J.drop2 (ih x1 x2 x3 x5 r104 s109 hw) ⟨rfl, rfl, rfl, rfl, rfl, rfl, trivial⟩
      · replace hw := hw.2 h
        refine r_iload hC dX8_isSent_51 rfl ?_
        refine r_aload_n hC dX8_isSent_53 rfl ?_
        refine gf_X8_42 hC dX8_isSent_54 ?_
        refine r_iload hC dX8_isSent_57 rfl ?_
        refine r_iaload hC rfl (by decide) hw.1 dX8_isSent_59 ?_
        replace hw := hw.2
        refine r_icmp_le (tgt := 86) hC dX8_isSent_60 (by decide) (fun h => ?_) (fun h => ?_)
        · replace hw := hw.1 h
          exact J.drop2 (j_X8_isSent_86 hR hC hM x2 x3 x5 x6 s108 hw) ⟨rfl, rfl, rfl, rfl, rfl, trivial⟩
        · replace hw := hw.2 h
          refine r_aload_n hC dX8_isSent_63 rfl ?_
          refine gf_X8_45 hC dX8_isSent_64 ?_
          refine r_iload hC dX8_isSent_67 rfl ?_
          refine r_iaload hC rfl (by decide) hw.1 dX8_isSent_69 ?_
          replace hw := hw.2
          refine r_iconst hC dX8_isSent_70 ?_
          refine r_iand hC dX8_isSent_71 ?_
          refine r_if_ne (tgt := 86) hC dX8_isSent_72 (by decide) (fun h => ?_) (fun h => ?_)
          · replace hw := hw.1 h
            exact J.drop2 (j_X8_isSent_86 hR hC hM x2 x3 x5 x6 s108 hw) ⟨rfl, rfl, rfl, rfl, rfl, trivial⟩
          · replace hw := hw.2 h
            refine r_aload_n hC dX8_isSent_75 rfl ?_
            refine r_iload hC dX8_isSent_76 rfl ?_
            refine r_bipush hC dX8_isSent_78 (by decide) ?_
            refine cl_X8_156 hC (c_X8_goesOn (kL K) hw) (by rw [hR]; decide) (Nat.le_of_ble_eq_true rfl) dX8_isSent_80 (fun s112 hq => ?_)
            clear hw
            have hw := hq
            clear hq
            refine r_goto (tgt := 120) hC dX8_isSent_83 (by decide) ?_
            refine r_aload_n hC dX8_isSent_120 rfl ?_
            refine r_iconst hC dX8_isSent_121 ?_
            refine r_iload_n hC dX8_isSent_122 rfl ?_
            refine r_aload_n hC dX8_isSent_123 rfl ?_
            refine gf_X8_33 hC dX8_isSent_124 ?_
            refine r_iload hC dX8_isSent_127 rfl ?_
            refine r_iaload hC rfl (by decide) hw.1 dX8_isSent_129 ?_
            replace hw := hw.2
            refine cl_X8_224 hC (c_X8_waiter (kL K) hw) (by rw [hR]; decide) (Nat.le_of_ble_eq_true rfl) dX8_isSent_130 (fun r105 s113 hq => ?_)
            clear hw
            have hw := hq
            clear hq
            refine r_istore (l' := [_, _, _, _, _, _, _, _]) hC dX8_isSent_133 rfl (by decide) rfl ?_
            refine r_goto (tgt := 24) hC dX8_isSent_135 (by decide) ?_
            exact J.drop2 (ih x1 x2 x3 x5 r105 s113 hw) ⟨rfl, rfl, rfl, rfl, rfl, rfl, trivial⟩
def wp_X8_isSent (x1 : Int) (x2 : Int) (σ : St) (po : Int → St → Prop) : Prop := (0 ≤ nm x2 ∧ nm x2 < 16) ∧ (0 ≤ nm x2 ∧ nm x2 < 16) ∧ wp_X8_waiter 2 x1 0 σ (fun r101 s101 => ∃ n9, wp_X8_isSent_24 po n9 x1 x2 (gL σ 110 10 (nm x2).toNat) (gI σ 110 11 (nm x2).toNat) r101 s101)
set_option maxRecDepth 100000 in
set_option maxHeartbeats 4000000 in
theorem c_X8_isSent (l : Launch) {x1 : Int} {x2 : Int} {σ : St} {po : Int → St → Prop} (hw : wp_X8_isSent x1 x2 σ po) : MT l yX8_isSent cX8_isSent 8 (some .boolean) ({ frames := 2, cells := 0, slots := 0, locals := 44 } : Room) [wr 30 (some 0), wi x1, wi x2] σ (PI po) := by
  refine MT_of (by decide) (Nat.le_of_ble_eq_true rfl) (fun K hL hR hC hM => ?_)
  subst hL
  unfold wp_X8_isSent at hw
  show J K 0 [some (wr 30 (some 0)), some (wi x1), some (wi x2), none, none, none, none, none] [] σ 0 0
  refine r_aload_n hC dX8_isSent_0 rfl ?_
  refine gf_X8_39 hC dX8_isSent_1 ?_
  refine r_iload_n hC dX8_isSent_4 rfl ?_
  refine r_laload hC rfl (by decide) hw.1 dX8_isSent_5 ?_
  replace hw := hw.2
  refine r_lstore_n (l' := [_, _, _, _, _, _, _, _]) hC dX8_isSent_6 rfl (by decide) rfl ?_
  refine r_aload_n hC dX8_isSent_7 rfl ?_
  refine gf_X8_42 hC dX8_isSent_8 ?_
  refine r_iload_n hC dX8_isSent_11 rfl ?_
  refine r_iaload hC rfl (by decide) hw.1 dX8_isSent_12 ?_
  replace hw := hw.2
  refine r_istore (l' := [_, _, _, _, _, _, _, _]) hC dX8_isSent_13 rfl (by decide) rfl ?_
  refine r_aload_n hC dX8_isSent_15 rfl ?_
  refine r_iconst hC dX8_isSent_16 ?_
  refine r_iload_n hC dX8_isSent_17 rfl ?_
  refine r_iconst hC dX8_isSent_18 ?_
  refine cl_X8_224 hC (c_X8_waiter (kL K) hw) (by rw [hR]; decide) (Nat.le_of_ble_eq_true rfl) dX8_isSent_19 (fun r101 s101 hq => ?_)
  clear hw
  have hw := hq
  clear hq
  refine r_istore (l' := [_, _, _, _, _, _, _, _]) hC dX8_isSent_22 rfl (by decide) rfl ?_
  obtain ⟨n9, hw⟩ := hw
  exact J.drop2 (j_X8_isSent_24 hR hC hM n9 x1 x2 (gL σ 110 10 (nm x2).toNat) (gI σ 110 11 (nm x2).toNat) r101 s101 hw) ⟨rfl, rfl, rfl, rfl, rfl, rfl, trivial⟩
def wp_X8_lookAtSenders_16 (po : St → Prop) (X2 : Int → St → Prop) : Nat → Int → Int → St → Prop
  | 0, _, _, _ => False
  | n + 1, x1, x2, σ => (nm x2 = nm (-1) → X2 x1 σ) ∧
 (nm x2 ≠ nm (-1) → (nm x1 ≠ 0 → X2 x1 σ) ∧
 (nm x1 = 0 → (0 ≤ nm x2 ∧ nm x2 < 16) ∧ (0 ≤ nm x2 ∧ nm x2 < 16) ∧ wp_X8_fits (gI σ 110 9 (nm x2).toNat) (gI σ 110 11 (nm x2).toNat) σ (fun r102 s102 => (nm r102 = 0 → (0 ≤ nm x2 ∧ nm x2 < 16) ∧ wp_X8_waiter 1 (-1) (gI s102 110 8 (nm x2).toNat) s102 (fun r103 s103 => wp_X8_lookAtSenders_16 po X2 n x1 r103 s103)) ∧
 (nm r102 ≠ 0 → (0 ≤ nm x2 ∧ nm x2 < 16) ∧ wp_X8_isSent (gI s102 110 9 (nm x2).toNat) x2 s102 (fun r104 s104 => wp_X8_goesOn x2 0 s104 (fun s105 => (0 ≤ nm x2 ∧ nm x2 < 16) ∧ wp_X8_waiter 1 (-1) (gI s105 110 8 (nm x2).toNat) s105 (fun r105 s106 => wp_X8_lookAtSenders_16 po X2 n r104 r105 s106)))))))
set_option maxRecDepth 100000 in
set_option maxHeartbeats 4000000 in
theorem j_X8_lookAtSenders_16 {K : JK} (hR : kRm K = ({ frames := 3, cells := 0, slots := 0, locals := 71 } : Room)) (hC : Cx K cX8_lookAtSenders 3 RX8) {po : St → Prop} (hM : Mx K none (PV po)) {X2 : Int → St → Prop} (hX2 : ∀ (x1 : Int) (σ : St), X2 x1 σ → J K 2 [some (wr 30 (some 0)), some (wi x1), none] [] σ 0 0) : ∀ (n : Nat) (x1 : Int) (x2 : Int) (σ : St), wp_X8_lookAtSenders_16 po X2 n x1 x2 σ → J K 16 [some (wr 30 (some 0)), some (wi x1), some (wi x2)] [] σ 0 0 := by
  intro n
  induction n with
  | zero =>
    intro x1 x2 σ hw
    exact False.elim hw
  | succ n ih =>
    intro x1 x2 σ hw
    unfold wp_X8_lookAtSenders_16 at hw
    refine r_iload_n hC dX8_lookAtSenders_16 rfl ?_
    refine r_iconst hC dX8_lookAtSenders_17 ?_
    refine r_icmp_eq (tgt := 78) hC dX8_lookAtSenders_18 (by decide) (fun h => ?_) (fun h => ?_)
    · replace hw := hw.1 h
      refine r_goto (tgt := 2) hC dX8_lookAtSenders_78 (by decide) ?_
      exact J.drop2 (hX2 x1 σ hw) ⟨rfl, rfl, trivial⟩
    · replace hw := hw.2 h
      refine r_iload_n hC dX8_lookAtSenders_21 rfl ?_
      refine r_if_ne (tgt := 78) hC dX8_lookAtSenders_22 (by decide) (fun h => ?_) (fun h => ?_)
      · replace hw := hw.1 h
        refine r_goto (tgt := 2) hC dX8_lookAtSenders_78 (by decide) ?_
        exact J.drop2 (hX2 x1 σ hw) ⟨rfl, rfl, trivial⟩
      · replace hw := hw.2 h
        refine r_aload_n hC dX8_lookAtSenders_25 rfl ?_
        refine r_aload_n hC dX8_lookAtSenders_26 rfl ?_
        refine gf_X8_36 hC dX8_lookAtSenders_27 ?_
        refine r_iload_n hC dX8_lookAtSenders_30 rfl ?_
        refine r_iaload hC rfl (by decide) hw.1 dX8_lookAtSenders_31 ?_
        replace hw := hw.2
        refine r_aload_n hC dX8_lookAtSenders_32 rfl ?_
        refine gf_X8_42 hC dX8_lookAtSenders_33 ?_
        refine r_iload_n hC dX8_lookAtSenders_36 rfl ?_
        refine r_iaload hC rfl (by decide) hw.1 dX8_lookAtSenders_37 ?_
        replace hw := hw.2
        refine cl_X8_236 hC (c_X8_fits (kL K) hw) (by rw [hR]; decide) (Nat.le_of_ble_eq_true rfl) dX8_lookAtSenders_38 (fun r102 s102 hq => ?_)
        clear hw
        have hw := hq
        clear hq
        refine r_if_eq (tgt := 62) hC dX8_lookAtSenders_41 (by decide) (fun h => ?_) (fun h => ?_)
        · replace hw := hw.1 h
          refine r_aload_n hC dX8_lookAtSenders_62 rfl ?_
          refine r_iconst hC dX8_lookAtSenders_63 ?_
          refine r_iconst hC dX8_lookAtSenders_64 ?_
          refine r_aload_n hC dX8_lookAtSenders_65 rfl ?_
          refine gf_X8_33 hC dX8_lookAtSenders_66 ?_
          refine r_iload_n hC dX8_lookAtSenders_69 rfl ?_
          refine r_iaload hC rfl (by decide) hw.1 dX8_lookAtSenders_70 ?_
          replace hw := hw.2
          refine cl_X8_224 hC (c_X8_waiter (kL K) hw) (by rw [hR]; decide) (Nat.le_of_ble_eq_true rfl) dX8_lookAtSenders_71 (fun r103 s103 hq => ?_)
          clear hw
          have hw := hq
          clear hq
          refine r_istore_n (l' := [_, _, _]) hC dX8_lookAtSenders_74 rfl (by decide) rfl ?_
          refine r_goto (tgt := 16) hC dX8_lookAtSenders_75 (by decide) ?_
          exact J.drop2 (ih x1 r103 s103 hw) ⟨rfl, rfl, rfl, trivial⟩
        · replace hw := hw.2 h
          refine r_aload_n hC dX8_lookAtSenders_44 rfl ?_
          refine r_aload_n hC dX8_lookAtSenders_45 rfl ?_
          refine gf_X8_36 hC dX8_lookAtSenders_46 ?_
          refine r_iload_n hC dX8_lookAtSenders_49 rfl ?_
          refine r_iaload hC rfl (by decide) hw.1 dX8_lookAtSenders_50 ?_
          replace hw := hw.2
          refine r_iload_n hC dX8_lookAtSenders_51 rfl ?_
          refine cl_X8_239 hC (c_X8_isSent (kL K) hw) (by rw [hR]; decide) (Nat.le_of_ble_eq_true rfl) dX8_lookAtSenders_52 (fun r104 s104 hq => ?_)
          clear hw
          have hw := hq
          clear hq
          refine r_istore_n (l' := [_, _, _]) hC dX8_lookAtSenders_55 rfl (by decide) rfl ?_
          refine r_aload_n hC dX8_lookAtSenders_56 rfl ?_
          refine r_iload_n hC dX8_lookAtSenders_57 rfl ?_
          refine r_iconst hC dX8_lookAtSenders_58 ?_
          refine cl_X8_156 hC (c_X8_goesOn (kL K) hw) (by rw [hR]; decide) (Nat.le_of_ble_eq_true rfl) dX8_lookAtSenders_59 (fun s105 hq => ?_)
          clear hw
          have hw := hq
          clear hq
          refine r_aload_n hC dX8_lookAtSenders_62 rfl ?_
          refine r_iconst hC dX8_lookAtSenders_63 ?_
          refine r_iconst hC dX8_lookAtSenders_64 ?_
          refine r_aload_n hC dX8_lookAtSenders_65 rfl ?_
          refine gf_X8_33 hC dX8_lookAtSenders_66 ?_
          refine r_iload_n hC dX8_lookAtSenders_69 rfl ?_
          refine r_iaload hC rfl (by decide) hw.1 dX8_lookAtSenders_70 ?_
          replace hw := hw.2
          refine cl_X8_224 hC (c_X8_waiter (kL K) hw) (by rw [hR]; decide) (Nat.le_of_ble_eq_true rfl) dX8_lookAtSenders_71 (fun r105 s106 hq => ?_)
          clear hw
          have hw := hq
          clear hq
          refine r_istore_n (l' := [_, _, _]) hC dX8_lookAtSenders_74 rfl (by decide) rfl ?_
          refine r_goto (tgt := 16) hC dX8_lookAtSenders_75 (by decide) ?_
          exact J.drop2 (ih r104 r105 s106 hw) ⟨rfl, rfl, rfl, trivial⟩
def wp_X8_lookAtSenders_2 (po : St → Prop) : Nat → Int → St → Prop
  | 0, _, _ => False
  | n + 1, x1, σ => (nm x1 = 0 → po σ) ∧
 (nm x1 ≠ 0 → wp_X8_waiter 1 (-1) 0 σ (fun r101 s101 => ∃ n9, wp_X8_lookAtSenders_16 po (fun x1 s9 => wp_X8_lookAtSenders_2 po n x1 s9) n9 0 r101 s101))
set_option maxRecDepth 100000 in
set_option maxHeartbeats 4000000 in
theorem j_X8_lookAtSenders_2 {K : JK} (hR : kRm K = ({ frames := 3, cells := 0, slots := 0, locals := 71 } : Room)) (hC : Cx K cX8_lookAtSenders 3 RX8) {po : St → Prop} (hM : Mx K none (PV po)) : ∀ (n : Nat) (x1 : Int) (σ : St), wp_X8_lookAtSenders_2 po n x1 σ → J K 2 [some (wr 30 (some 0)), some (wi x1), none] [] σ 0 0 := by
  intro n
  induction n with
  | zero =>
    intro x1 σ hw
    exact False.elim hw
  | succ n ih =>
    intro x1 σ hw
    unfold wp_X8_lookAtSenders_2 at hw
    refine r_iload_n hC dX8_lookAtSenders_2 rfl ?_
    refine r_if_eq (tgt := 81) hC dX8_lookAtSenders_3 (by decide) (fun h => ?_) (fun h => ?_)
    · replace hw := hw.1 h
      exact r_vreturn hC hM ⟨rfl, hw⟩ (by rw [hR]; decide) (by rw [hR]; decide) dX8_lookAtSenders_81
    · replace hw := hw.2 h
      refine r_iconst hC dX8_lookAtSenders_6 ?_
      refine r_istore_n (l' := [_, _, _]) hC dX8_lookAtSenders_7 rfl (by decide) rfl ?_
      refine r_aload_n hC dX8_lookAtSenders_8 rfl ?_
      refine r_iconst hC dX8_lookAtSenders_9 ?_
      refine r_iconst hC dX8_lookAtSenders_10 ?_
      refine r_iconst hC dX8_lookAtSenders_11 ?_
      refine cl_X8_224 hC (c_X8_waiter (kL K) hw) (by rw [hR]; decide) (Nat.le_of_ble_eq_true rfl) dX8_lookAtSenders_12 (fun r101 s101 hq => ?_)
      clear hw
      have hw := hq
      clear hq
      refine r_istore_n (l' := [_, _, _]) hC dX8_lookAtSenders_15 rfl (by decide) rfl ?_
      obtain ⟨n9, hw⟩ := hw
      exact J.drop2 (j_X8_lookAtSenders_16 hR hC hM ih n9 0 r101 s101 hw) ⟨rfl, rfl, rfl, trivial⟩
def wp_X8_lookAtSenders  (σ : St) (po : St → Prop) : Prop := ∃ n9, wp_X8_lookAtSenders_2 po n9 1 σ
set_option maxRecDepth 100000 in
set_option maxHeartbeats 4000000 in
theorem c_X8_lookAtSenders (l : Launch)  {σ : St} {po : St → Prop} (hw : wp_X8_lookAtSenders  σ po) : MT l yX8_lookAtSenders cX8_lookAtSenders 3 none ({ frames := 3, cells := 0, slots := 0, locals := 71 } : Room) [wr 30 (some 0)] σ (PV po) := by
  refine MT_of (by decide) (Nat.le_of_ble_eq_true rfl) (fun K hL hR hC hM => ?_)
  subst hL
  unfold wp_X8_lookAtSenders at hw
  show J K 0 [some (wr 30 (some 0)), none, none] [] σ 0 0
  refine r_iconst hC dX8_lookAtSenders_0 ?_
  refine r_istore_n (l' := [_, _, _]) hC dX8_lookAtSenders_1 rfl (by decide) rfl ?_
  obtain ⟨n9, hw⟩ := hw
  exact J.drop2 (j_X8_lookAtSenders_2 hR hC hM n9 1 σ hw) ⟨rfl, rfl, trivial⟩
def wp_X8_remove_191 (po : Int → St → Prop) (X105 : Int → Int → Int → Int → St → Prop) : Nat → Int → Int → Int → Int → Int → St → Prop
  | 0, _, _, _, _, _, _ => False
  | n + 1, x1, x2, x4, x5, x7, σ => (nm 8 ≤ nm x7 → X105 x1 x2 x4 (x5 + 1) σ) ∧
 (nm x7 < nm 8 → (nm x2 ≠ nm 1 → X105 x1 x2 x4 (x5 + 1) σ) ∧
 (nm x2 = nm 1 → (0 ≤ nm (((96 * x5) + (8 * (x4 - 12))) + x7) ∧ nm (((96 * x5) + (8 * (x4 - 12))) + x7) < 1536) ∧ ∀ s112, s112 = uI σ 110 41 (nm (((96 * x5) + (8 * (x4 - 12))) + x7)).toNat 0 → wp_X8_remove_191 po X105 n x1 x2 x4 x5 (x7 + 1) s112))
set_option maxRecDepth 100000 in
set_option maxHeartbeats 4000000 in
theorem j_X8_remove_191 {K : JK} (hR : kRm K = ({ frames := 4, cells := 0, slots := 0, locals := 93 } : Room)) (hC : Cx K cX8_remove 8 RX8) {po : Int → St → Prop} (hM : Mx K (some .int) (PI po)) {X105 : Int → Int → Int → Int → St → Prop} (hX105 : ∀ (x1 : Int) (x2 : Int) (x4 : Int) (x5 : Int) (σ : St), X105 x1 x2 x4 x5 σ → J K 105 [some (wr 30 (some 0)), some (wi x1), some (wi x2), none, some (wi x4), some (wi x5), none, none] [] σ 0 0) : ∀ (n : Nat) (x1 : Int) (x2 : Int) (x4 : Int) (x5 : Int) (x7 : Int) (σ : St), wp_X8_remove_191 po X105 n x1 x2 x4 x5 x7 σ → J K 191 [some (wr 30 (some 0)), some (wi x1), some (wi x2), none, some (wi x4), some (wi x5), none, some (wi x7)] [] σ 0 0 := by
  intro n
  induction n with
  | zero =>
    intro x1 x2 x4 x5 x7 σ hw
    exact False.elim hw
  | succ n ih =>
    intro x1 x2 x4 x5 x7 σ hw
    unfold wp_X8_remove_191 at hw
    refine r_iload hC dX8_remove_191 rfl ?_
    refine r_bipush hC dX8_remove_193 (by decide) ?_
    refine r_icmp_ge (tgt := 232) hC dX8_remove_195 (by decide) (fun h => ?_) (fun h => ?_)
    · replace hw := hw.1 h
      refine r_iinc (l' := [_, _, _, _, _, _, _, _]) hC dX8_remove_232 rfl rfl (by decide) rfl ?_
      refine r_goto (tgt := 105) hC dX8_remove_235 (by decide) ?_
      exact J.drop2 (hX105 x1 x2 x4 (x5 + 1) σ hw) ⟨rfl, rfl, rfl, rfl, rfl, trivial⟩
    · replace hw := hw.2 h
      refine r_iload_n hC dX8_remove_198 rfl ?_
      refine r_iconst hC dX8_remove_199 ?_
      refine r_icmp_ne (tgt := 232) hC dX8_remove_200 (by decide) (fun h => ?_) (fun h => ?_)
      · replace hw := hw.1 h
        refine r_iinc (l' := [_, _, _, _, _, _, _, _]) hC dX8_remove_232 rfl rfl (by decide) rfl ?_
        refine r_goto (tgt := 105) hC dX8_remove_235 (by decide) ?_
        exact J.drop2 (hX105 x1 x2 x4 (x5 + 1) σ hw) ⟨rfl, rfl, rfl, rfl, rfl, trivial⟩
      · replace hw := hw.2 h
        refine r_aload_n hC dX8_remove_203 rfl ?_
        refine gf_X8_129 hC dX8_remove_204 ?_
        refine r_bipush hC dX8_remove_207 (by decide) ?_
        refine r_iload hC dX8_remove_209 rfl ?_
        refine r_imul hC dX8_remove_211 ?_
        refine r_bipush hC dX8_remove_212 (by decide) ?_
        refine r_iload hC dX8_remove_214 rfl ?_
        refine r_bipush hC dX8_remove_216 (by decide) ?_
        refine r_isub hC dX8_remove_218 ?_
        refine r_imul hC dX8_remove_219 ?_
        refine r_iadd hC dX8_remove_220 ?_
        refine r_iload hC dX8_remove_221 rfl ?_
        refine r_iadd hC dX8_remove_223 ?_
        refine r_iconst hC dX8_remove_224 ?_
        refine r_iastore hC rfl (by decide) hw.1 dX8_remove_225 (fun s112 e9 => ?_)
        replace hw := hw.2 s112 e9
        clear e9
        refine r_iinc (l' := [_, _, _, _, _, _, _, _]) hC dX8_remove_226 rfl rfl (by decide) rfl ?_
        refine r_goto (tgt := 191) hC dX8_remove_229 (by decide) ?_
        exact J.drop2 (ih x1 x2 x4 x5 (x7 + 1) s112 hw) ⟨rfl, rfl, rfl, rfl, rfl, rfl, trivial⟩
def wp_X8_remove_165 (po : Int → St → Prop) (X105 : Int → Int → Int → Int → St → Prop) (x1 : Int) (x2 : Int) (x4 : Int) (x5 : Int) (y0 : Int) (y1 : Int) (σ : St) : Prop := (nm y1 ≠ nm y0 → ∃ n9, wp_X8_remove_191 po X105 n9 x1 x2 x4 x5 0 σ) ∧
 (nm y1 = nm y0 → wp_X8_goesOn x5 (-14) σ (fun s113 => ∃ n9, wp_X8_remove_191 po X105 n9 x1 x2 x4 x5 0 s113))
set_option maxRecDepth 100000 in
set_option maxHeartbeats 4000000 in
theorem j_X8_remove_165 {K : JK} (hR : kRm K = ({ frames := 4, cells := 0, slots := 0, locals := 93 } : Room)) (hC : Cx K cX8_remove 8 RX8) {po : Int → St → Prop} (hM : Mx K (some .int) (PI po)) {X105 : Int → Int → Int → Int → St → Prop} (hX105 : ∀ (x1 : Int) (x2 : Int) (x4 : Int) (x5 : Int) (σ : St), X105 x1 x2 x4 x5 σ → J K 105 [some (wr 30 (some 0)), some (wi x1), some (wi x2), none, some (wi x4), some (wi x5), none, none] [] σ 0 0) : ∀ (x1 : Int) (x2 : Int) (x4 : Int) (x5 : Int) (y0 : Int) (y1 : Int) (σ : St), wp_X8_remove_165 po X105 x1 x2 x4 x5 y0 y1 σ → J K 165 [some (wr 30 (some 0)), some (wi x1), some (wi x2), none, some (wi x4), some (wi x5), none, none] [wi y0, wi y1] σ 0 0 := by
  intro x1 x2 x4 x5 y0 y1 σ hw
  unfold wp_X8_remove_165 at hw
  refine r_icmp_ne (tgt := 172) hC dX8_remove_165 (by decide) (fun h => ?_) (fun h => ?_)
  · replace hw := hw.1 h
    refine r_iconst hC dX8_remove_172 ?_
    refine r_istore (l' := [_, _, _, _, _, _, _, _]) hC dX8_remove_173 rfl (by decide) rfl ?_
    refine r_iload hC dX8_remove_175 rfl ?_
    refine r_if_eq (tgt := 188) hC dX8_remove_177 (by decide) (fun _ => ?_) (fun h => absurd h (by decide))
    refine r_iconst hC dX8_remove_188 ?_
    refine r_istore (l' := [_, _, _, _, _, _, _, _]) hC dX8_remove_189 rfl (by decide) rfl ?_
    obtain ⟨n9, hw⟩ := hw
    exact J.drop2 (j_X8_remove_191 hR hC hM hX105 n9 x1 x2 x4 x5 0 σ hw) ⟨rfl, rfl, rfl, rfl, rfl, rfl, trivial⟩
  · replace hw := hw.2 h
    refine r_iconst hC dX8_remove_168 ?_
    refine r_goto (tgt := 173) hC dX8_remove_169 (by decide) ?_
    refine r_istore (l' := [_, _, _, _, _, _, _, _]) hC dX8_remove_173 rfl (by decide) rfl ?_
    refine r_iload hC dX8_remove_175 rfl ?_
    refine r_if_eq (tgt := 188) hC dX8_remove_177 (by decide) (fun h => absurd h (by decide)) (fun _ => ?_)
    refine r_aload_n hC dX8_remove_180 rfl ?_
    refine r_iload hC dX8_remove_181 rfl ?_
    refine r_bipush hC dX8_remove_183 (by decide) ?_
    refine cl_X8_156 hC (c_X8_goesOn (kL K) hw) (by rw [hR]; decide) (Nat.le_of_ble_eq_true rfl) dX8_remove_185 (fun s113 hq => ?_)
    clear hw
    have hw := hq
    clear hq
    refine r_iconst hC dX8_remove_188 ?_
    refine r_istore (l' := [_, _, _, _, _, _, _, _]) hC dX8_remove_189 rfl (by decide) rfl ?_
    obtain ⟨n9, hw⟩ := hw
    exact J.drop2 (j_X8_remove_191 hR hC hM hX105 n9 x1 x2 x4 x5 0 s113 hw) ⟨rfl, rfl, rfl, rfl, rfl, rfl, trivial⟩
def wp_X8_remove_105 (po : Int → St → Prop) : Nat → Int → Int → Int → Int → St → Prop
  | 0, _, _, _, _, _ => False
  | n + 1, x1, x2, x4, x5, σ => (nm (gI σ 100 0 0) ≤ nm x5 → (0 ≤ nm x1 ∧ nm x1 < 16) ∧ ∀ s108, s108 = uI σ 110 4 (nm x1).toNat 0 → (nm x2 ≠ 0 → po 0 s108) ∧
 (nm x2 = 0 → (0 ≤ nm x4 ∧ nm x4 < 12) ∧ ∀ s109, s109 = uI s108 110 32 (nm x4).toNat 0 → (0 ≤ nm x4 ∧ nm x4 < 12) ∧ ∀ s110, s110 = uI s109 110 34 (nm x4).toNat 0 → wp_X8_lookAtSenders  s110 (fun s111 => po 0 s111))) ∧
 (nm x5 < nm (gI σ 100 0 0) → (0 ≤ nm x5 ∧ nm x5 < 16) ∧ (nm (gI σ 110 7 (nm x5).toNat) = 0 → ∃ n9, wp_X8_remove_191 po (fun x1 x2 x4 x5 s9 => wp_X8_remove_105 po n x1 x2 x4 x5 s9) n9 x1 x2 x4 x5 0 σ) ∧
 (nm (gI σ 110 7 (nm x5).toNat) ≠ 0 → (0 ≤ nm x5 ∧ nm x5 < 16) ∧ (nm (gI σ 110 9 (nm x5).toNat) ≠ nm (zrem x4 12) → ∃ n9, wp_X8_remove_191 po (fun x1 x2 x4 x5 s9 => wp_X8_remove_105 po n x1 x2 x4 x5 s9) n9 x1 x2 x4 x5 0 σ) ∧
 (nm (gI σ 110 9 (nm x5).toNat) = nm (zrem x4 12) → (0 ≤ nm x5 ∧ nm x5 < 16) ∧ (nm (gI σ 110 7 (nm x5).toNat) ≠ nm 3 → (nm x2 ≠ nm 1 → wp_X8_remove_165 po (fun x1 x2 x4 x5 s9 => wp_X8_remove_105 po n x1 x2 x4 x5 s9) x1 x2 x4 x5 0 0 σ) ∧
 (nm x2 = nm 1 → wp_X8_remove_165 po (fun x1 x2 x4 x5 s9 => wp_X8_remove_105 po n x1 x2 x4 x5 s9) x1 x2 x4 x5 1 0 σ)) ∧
 (nm (gI σ 110 7 (nm x5).toNat) = nm 3 → (nm x2 ≠ nm 1 → wp_X8_remove_165 po (fun x1 x2 x4 x5 s9 => wp_X8_remove_105 po n x1 x2 x4 x5 s9) x1 x2 x4 x5 0 1 σ) ∧
 (nm x2 = nm 1 → wp_X8_remove_165 po (fun x1 x2 x4 x5 s9 => wp_X8_remove_105 po n x1 x2 x4 x5 s9) x1 x2 x4 x5 1 1 σ)))))
set_option maxRecDepth 100000 in
set_option maxHeartbeats 4000000 in
theorem j_X8_remove_105 {K : JK} (hR : kRm K = ({ frames := 4, cells := 0, slots := 0, locals := 93 } : Room)) (hC : Cx K cX8_remove 8 RX8) {po : Int → St → Prop} (hM : Mx K (some .int) (PI po)) : ∀ (n : Nat) (x1 : Int) (x2 : Int) (x4 : Int) (x5 : Int) (σ : St), wp_X8_remove_105 po n x1 x2 x4 x5 σ → J K 105 [some (wr 30 (some 0)), some (wi x1), some (wi x2), none, some (wi x4), some (wi x5), none, none] [] σ 0 0 := by
  intro n
  induction n with
  | zero =>
    intro x1 x2 x4 x5 σ hw
    exact False.elim hw
  | succ n ih =>
    intro x1 x2 x4 x5 σ hw
    unfold wp_X8_remove_105 at hw
    refine r_iload hC dX8_remove_105 rfl ?_
    refine r_aload_n hC dX8_remove_107 rfl ?_
    refine gf_X8_138 hC dX8_remove_108 ?_
    refine r_icmp_ge (tgt := 238) hC dX8_remove_111 (by decide) (fun h => ?_) (fun h => ?_)
    · replace hw := hw.1 h
      refine r_aload_n hC dX8_remove_238 rfl ?_
      refine gf_X8_20 hC dX8_remove_239 ?_
      refine r_iload_n hC dX8_remove_242 rfl ?_
      refine r_iconst hC dX8_remove_243 ?_
      refine r_iastore hC rfl (by decide) hw.1 dX8_remove_244 (fun s108 e9 => ?_)
      replace hw := hw.2 s108 e9
      clear e9
      refine r_iload_n hC dX8_remove_245 rfl ?_
      refine r_if_ne (tgt := 269) hC dX8_remove_246 (by decide) (fun h => ?_) (fun h => ?_)
      · replace hw := hw.1 h
        refine r_iconst hC dX8_remove_269 ?_
        exact r_ireturn hC hM ⟨_, rfl, hw⟩ (by rw [hR]; decide) (by rw [hR]; decide) dX8_remove_270
      · replace hw := hw.2 h
        refine r_aload_n hC dX8_remove_249 rfl ?_
        refine gf_X8_102 hC dX8_remove_250 ?_
        refine r_iload hC dX8_remove_253 rfl ?_
        refine r_iconst hC dX8_remove_255 ?_
        refine r_iastore hC rfl (by decide) hw.1 dX8_remove_256 (fun s109 e9 => ?_)
        replace hw := hw.2 s109 e9
        clear e9
        refine r_aload_n hC dX8_remove_257 rfl ?_
        refine gf_X8_108 hC dX8_remove_258 ?_
        refine r_iload hC dX8_remove_261 rfl ?_
        refine r_iconst hC dX8_remove_263 ?_
        refine r_iastore hC rfl (by decide) hw.1 dX8_remove_264 (fun s110 e9 => ?_)
        replace hw := hw.2 s110 e9
        clear e9
        refine r_aload_n hC dX8_remove_265 rfl ?_
        refine cl_X8_213 hC (c_X8_lookAtSenders (kL K) hw) (by rw [hR]; decide) (Nat.le_of_ble_eq_true rfl) dX8_remove_266 (fun s111 hq => ?_)
        clear hw
        have hw := hq
        clear hq
        refine r_iconst hC dX8_remove_269 ?_
        exact r_ireturn hC hM ⟨_, rfl, hw⟩ (by rw [hR]; decide) (by rw [hR]; decide) dX8_remove_270
    · replace hw := hw.2 h
      refine r_aload_n hC dX8_remove_114 rfl ?_
      refine gf_X8_30 hC dX8_remove_115 ?_
      refine r_iload hC dX8_remove_118 rfl ?_
      refine r_iaload hC rfl (by decide) hw.1 dX8_remove_120 ?_
      replace hw := hw.2
      refine r_if_eq (tgt := 172) hC dX8_remove_121 (by decide) (fun h => ?_) (fun h => ?_)
      · replace hw := hw.1 h
        refine r_iconst hC dX8_remove_172 ?_
        refine r_istore (l' := [_, _, _, _, _, _, _, _]) hC dX8_remove_173 rfl (by decide) rfl ?_
        refine r_iload hC dX8_remove_175 rfl ?_
        refine r_if_eq (tgt := 188) hC dX8_remove_177 (by decide) (fun _ => ?_) (fun h => absurd h (by decide))
        refine r_iconst hC dX8_remove_188 ?_
        refine r_istore (l' := [_, _, _, _, _, _, _, _]) hC dX8_remove_189 rfl (by decide) rfl ?_
        obtain ⟨n9, hw⟩ := hw
        exact J.drop2 (j_X8_remove_191 hR hC hM ih n9 x1 x2 x4 x5 0 σ hw) ⟨rfl, rfl, rfl, rfl, rfl, rfl, trivial⟩
      · replace hw := hw.2 h
        refine r_aload_n hC dX8_remove_124 rfl ?_
        refine gf_X8_36 hC dX8_remove_125 ?_
        refine r_iload hC dX8_remove_128 rfl ?_
        refine r_iaload hC rfl (by decide) hw.1 dX8_remove_130 ?_
        replace hw := hw.2
        refine r_iload hC dX8_remove_131 rfl ?_
        refine r_bipush hC dX8_remove_133 (by decide) ?_
        refine r_irem hC dX8_remove_135 (by decide) ?_
        refine r_icmp_ne (tgt := 172) hC dX8_remove_136 (by decide) (fun h => ?_) (fun h => ?_)
        · replace hw := hw.1 h
          refine r_iconst hC dX8_remove_172 ?_
          refine r_istore (l' := [_, _, _, _, _, _, _, _]) hC dX8_remove_173 rfl (by decide) rfl ?_
          refine r_iload hC dX8_remove_175 rfl ?_
          refine r_if_eq (tgt := 188) hC dX8_remove_177 (by decide) (fun _ => ?_) (fun h => absurd h (by decide))
          refine r_iconst hC dX8_remove_188 ?_
          refine r_istore (l' := [_, _, _, _, _, _, _, _]) hC dX8_remove_189 rfl (by decide) rfl ?_
          obtain ⟨n9, hw⟩ := hw
          exact J.drop2 (j_X8_remove_191 hR hC hM ih n9 x1 x2 x4 x5 0 σ hw) ⟨rfl, rfl, rfl, rfl, rfl, rfl, trivial⟩
        · replace hw := hw.2 h
          refine r_aload_n hC dX8_remove_139 rfl ?_
          refine gf_X8_30 hC dX8_remove_140 ?_
          refine r_iload hC dX8_remove_143 rfl ?_
          refine r_iaload hC rfl (by decide) hw.1 dX8_remove_145 ?_
          replace hw := hw.2
          refine r_iconst hC dX8_remove_146 ?_
          refine r_icmp_ne (tgt := 154) hC dX8_remove_147 (by decide) (fun h => ?_) (fun h => ?_)
          · replace hw := hw.1 h
            refine r_iconst hC dX8_remove_154 ?_
            refine r_iload_n hC dX8_remove_155 rfl ?_
            refine r_iconst hC dX8_remove_156 ?_
            refine r_icmp_ne (tgt := 164) hC dX8_remove_157 (by decide) (fun h => ?_) (fun h => ?_)
            · replace hw := hw.1 h
              refine r_iconst hC dX8_remove_164 ?_
              exact J.drop2 (j_X8_remove_165 hR hC hM ih x1 x2 x4 x5 0 0 σ hw) ⟨rfl, rfl, rfl, rfl, rfl, trivial⟩
            · replace hw := hw.2 h
              refine r_iconst hC dX8_remove_160 ?_
              refine r_goto (tgt := 165) hC dX8_remove_161 (by decide) ?_
              exact J.drop2 (j_X8_remove_165 hR hC hM ih x1 x2 x4 x5 1 0 σ hw) ⟨rfl, rfl, rfl, rfl, rfl, trivial⟩
          · replace hw := hw.2 h
            refine r_iconst hC dX8_remove_150 ?_
            refine r_goto (tgt := 155) hC dX8_remove_151 (by decide) ?_
            refine r_iload_n hC dX8_remove_155 rfl ?_
            refine r_iconst hC dX8_remove_156 ?_
            refine r_icmp_ne (tgt := 164) hC dX8_remove_157 (by decide) (fun h => ?_) (fun h => ?_)
            · replace hw := hw.1 h
              refine r_iconst hC dX8_remove_164 ?_
              exact J.drop2 (j_X8_remove_165 hR hC hM ih x1 x2 x4 x5 0 1 σ hw) ⟨rfl, rfl, rfl, rfl, rfl, trivial⟩
            · replace hw := hw.2 h
              refine r_iconst hC dX8_remove_160 ?_
              refine r_goto (tgt := 165) hC dX8_remove_161 (by decide) ?_
              exact J.drop2 (j_X8_remove_165 hR hC hM ih x1 x2 x4 x5 1 1 σ hw) ⟨rfl, rfl, rfl, rfl, rfl, trivial⟩
def wp_X8_remove (x1 : Int) (x2 : Int) (x3 : Int) (σ : St) (po : Int → St → Prop) : Prop := wp_X8_isProcess x1 σ (fun r101 s101 => (nm r101 ≠ 0 → wp_X8_isFree x1 s101 (fun r102 s102 => (nm r102 ≠ 0 → wp_X8_in (nm x2) 0 1 s102 (fun r103 s103 => (nm r103 ≠ 0 → wp_X8_slotOf x3 (12 * x2) s103 (fun r104 s104 => (nm r104 ≠ nm (-1) → wp_X8_rules x1 r104 s104 (fun r105 s105 => (nm r105 ≠ 0 → (0 ≤ nm r104 ∧ nm r104 < 24) ∧ ∀ s106, s106 = uI s105 110 24 (nm r104).toNat 0 → (0 ≤ nm r104 ∧ nm r104 < 24) ∧ (0 ≤ nm r104 ∧ nm r104 < 24) ∧ ∀ s107, s107 = uI s106 110 25 (nm r104).toNat ((gI s106 110 25 (nm r104).toNat) + 1) → ∃ n9, wp_X8_remove_105 po n9 x1 x2 r104 0 s107) ∧
 (nm r105 = 0 → wp_X8_tells x1 (-6) s105 (fun r106 s114 => po r106 s114)))) ∧
 (nm r104 = nm (-1) → wp_X8_tells x1 (-5) s104 (fun r107 s115 => po r107 s115)))) ∧
 (nm r103 = 0 → wp_X8_tells x1 (-4) s103 (fun r108 s116 => po r108 s116)))) ∧
 (nm r102 = 0 → po (-3) s102))) ∧
 (nm r101 = 0 → po (-2) s101))
set_option maxRecDepth 100000 in
set_option maxHeartbeats 4000000 in
theorem c_X8_remove (l : Launch) {x1 : Int} {x2 : Int} {x3 : Int} {σ : St} {po : Int → St → Prop} (hw : wp_X8_remove x1 x2 x3 σ po) : MT l yX8_remove cX8_remove 8 (some .int) ({ frames := 4, cells := 0, slots := 0, locals := 93 } : Room) [wr 30 (some 0), wi x1, wi x2, wi x3] σ (PI po) := by
  refine MT_of (by decide) (Nat.le_of_ble_eq_true rfl) (fun K hL hR hC hM => ?_)
  subst hL
  unfold wp_X8_remove at hw
  show J K 0 [some (wr 30 (some 0)), some (wi x1), some (wi x2), some (wi x3), none, none, none, none] [] σ 0 0
  refine r_aload_n hC dX8_remove_0 rfl ?_
  refine r_iload_n hC dX8_remove_1 rfl ?_
  refine cl_X8_152 hC (c_X8_isProcess (kL K) hw) (by rw [hR]; decide) (Nat.le_of_ble_eq_true rfl) dX8_remove_2 (fun r101 s101 hq => ?_)
  clear hw
  have hw := hq
  clear hq
  refine r_if_ne (tgt := 11) hC dX8_remove_5 (by decide) (fun h => ?_) (fun h => ?_)
  · replace hw := hw.1 h
    refine r_aload_n hC dX8_remove_11 rfl ?_
    refine r_iload_n hC dX8_remove_12 rfl ?_
    refine cl_X8_173 hC (c_X8_isFree (kL K) hw) (by rw [hR]; decide) (Nat.le_of_ble_eq_true rfl) dX8_remove_13 (fun r102 s102 hq => ?_)
    clear hw
    have hw := hq
    clear hq
    refine r_if_ne (tgt := 22) hC dX8_remove_16 (by decide) (fun h => ?_) (fun h => ?_)
    · replace hw := hw.1 h
      refine r_iload_n hC dX8_remove_22 rfl ?_
      refine r_i2l hC dX8_remove_23 ?_
      refine r_lconst hC 0 rfl dX8_remove_24 ?_
      refine r_lconst hC 1 rfl dX8_remove_25 ?_
      refine cl_X8_142 hC (c_X8_in (kL K) hw) (by rw [hR]; decide) (Nat.le_of_ble_eq_true rfl) dX8_remove_26 (fun r103 s103 hq => ?_)
      clear hw
      have hw := hq
      clear hq
      refine r_if_ne (tgt := 40) hC dX8_remove_29 (by decide) (fun h => ?_) (fun h => ?_)
      · replace hw := hw.1 h
        refine r_aload_n hC dX8_remove_40 rfl ?_
        refine r_iload_n hC dX8_remove_41 rfl ?_
        refine r_bipush hC dX8_remove_42 (by decide) ?_
        refine r_iload_n hC dX8_remove_44 rfl ?_
        refine r_imul hC dX8_remove_45 ?_
        refine cl_X8_206 hC (c_X8_slotOf (kL K) hw) (by rw [hR]; decide) (Nat.le_of_ble_eq_true rfl) dX8_remove_46 (fun r104 s104 hq => ?_)
        clear hw
        have hw := hq
        clear hq
        refine r_istore (l' := [_, _, _, _, _, _, _, _]) hC dX8_remove_49 rfl (by decide) rfl ?_
        refine r_iload hC dX8_remove_51 rfl ?_
        refine r_iconst hC dX8_remove_53 ?_
        refine r_icmp_ne (tgt := 65) hC dX8_remove_54 (by decide) (fun h => ?_) (fun h => ?_)
        · replace hw := hw.1 h
          refine r_aload_n hC dX8_remove_65 rfl ?_
          refine r_iload_n hC dX8_remove_66 rfl ?_
          refine r_iload hC dX8_remove_67 rfl ?_
          refine cl_X8_209 hC (c_X8_rules (kL K) hw) (by rw [hR]; decide) (Nat.le_of_ble_eq_true rfl) dX8_remove_69 (fun r105 s105 hq => ?_)
          clear hw
          have hw := hq
          clear hq
          refine r_if_ne (tgt := 83) hC dX8_remove_72 (by decide) (fun h => ?_) (fun h => ?_)
          · replace hw := hw.1 h
            refine r_aload_n hC dX8_remove_83 rfl ?_
            refine gf_X8_78 hC dX8_remove_84 ?_
            refine r_iload hC dX8_remove_87 rfl ?_
            refine r_iconst hC dX8_remove_89 ?_
            refine r_zastore hC (by decide) rfl (by decide) hw.1 dX8_remove_90 (fun s106 e9 => ?_)
            replace hw := hw.2 s106 e9
            clear e9
            refine r_aload_n hC dX8_remove_91 rfl ?_
            refine gf_X8_81 hC dX8_remove_92 ?_
            refine r_iload hC dX8_remove_95 rfl ?_
            refine r_dup2 hC dX8_remove_97 rfl rfl ?_
            refine r_iaload hC rfl (by decide) hw.1 dX8_remove_98 ?_
            replace hw := hw.2
            refine r_iconst hC dX8_remove_99 ?_
            refine r_iadd hC dX8_remove_100 ?_
            refine r_iastore hC rfl (by decide) hw.1 dX8_remove_101 (fun s107 e9 => ?_)
            replace hw := hw.2 s107 e9
            clear e9
            refine r_iconst hC dX8_remove_102 ?_
            refine r_istore (l' := [_, _, _, _, _, _, _, _]) hC dX8_remove_103 rfl (by decide) rfl ?_
            obtain ⟨n9, hw⟩ := hw
            exact J.drop2 (j_X8_remove_105 hR hC hM n9 x1 x2 r104 0 s107 hw) ⟨rfl, rfl, rfl, rfl, rfl, trivial⟩
          · replace hw := hw.2 h
            refine r_aload_n hC dX8_remove_75 rfl ?_
            refine r_iload_n hC dX8_remove_76 rfl ?_
            refine r_bipush hC dX8_remove_77 (by decide) ?_
            refine cl_X8_180 hC (c_X8_tells (kL K) hw) (by rw [hR]; decide) (Nat.le_of_ble_eq_true rfl) dX8_remove_79 (fun r106 s114 hq => ?_)
            clear hw
            have hw := hq
            clear hq
            exact r_ireturn hC hM ⟨_, rfl, hw⟩ (by rw [hR]; decide) (by rw [hR]; decide) dX8_remove_82
        · replace hw := hw.2 h
          refine r_aload_n hC dX8_remove_57 rfl ?_
          refine r_iload_n hC dX8_remove_58 rfl ?_
          refine r_bipush hC dX8_remove_59 (by decide) ?_
          refine cl_X8_180 hC (c_X8_tells (kL K) hw) (by rw [hR]; decide) (Nat.le_of_ble_eq_true rfl) dX8_remove_61 (fun r107 s115 hq => ?_)
          clear hw
          have hw := hq
          clear hq
          exact r_ireturn hC hM ⟨_, rfl, hw⟩ (by rw [hR]; decide) (by rw [hR]; decide) dX8_remove_64
      · replace hw := hw.2 h
        refine r_aload_n hC dX8_remove_32 rfl ?_
        refine r_iload_n hC dX8_remove_33 rfl ?_
        refine r_bipush hC dX8_remove_34 (by decide) ?_
        refine cl_X8_180 hC (c_X8_tells (kL K) hw) (by rw [hR]; decide) (Nat.le_of_ble_eq_true rfl) dX8_remove_36 (fun r108 s116 hq => ?_)
        clear hw
        have hw := hq
        clear hq
        exact r_ireturn hC hM ⟨_, rfl, hw⟩ (by rw [hR]; decide) (by rw [hR]; decide) dX8_remove_39
    · replace hw := hw.2 h
      refine r_bipush hC dX8_remove_19 (by decide) ?_
      exact r_ireturn hC hM ⟨_, rfl, hw⟩ (by rw [hR]; decide) (by rw [hR]; decide) dX8_remove_21
  · replace hw := hw.2 h
    refine r_bipush hC dX8_remove_8 (by decide) ?_
    exact r_ireturn hC hM ⟨_, rfl, hw⟩ (by rw [hR]; decide) (by rw [hR]; decide) dX8_remove_10
