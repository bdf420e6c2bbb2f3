/-! WALKS 7, printed by wip/whole/gen/mkwalks.py -/
def wp_X8_value_158 (po : Int → St → Prop) : Nat → Int → Int → Int → Int → Int → St → Prop
  | 0, _, _, _, _, _, _ => False
  | n + 1, x1, x5, x6, x7, x8, σ => (nm 16 ≤ nm x8 → (0 ≤ nm x1 ∧ nm x1 < 16) ∧ ∀ s110, s110 = uI σ 110 4 (nm x1).toNat 0 → (nm x7 = 0 → po 0 s110) ∧
 (nm x7 ≠ 0 → wp_X8_serve (x5 - 12) s110 (fun s111 => po 0 s111))) ∧
 (nm x8 < nm 16 → (0 ≤ nm ((96 * x8) + x6) ∧ nm ((96 * x8) + x6) < 1536) ∧ ∀ s112, s112 = uI σ 110 41 (nm ((96 * x8) + x6)).toNat 0 → wp_X8_value_158 po n x1 x5 x6 x7 (x8 + 1) s112)
set_option maxRecDepth 100000 in
set_option maxHeartbeats 4000000 in
theorem j_X8_value_158 {K : JK} (hR : kRm K = ({ frames := 3, cells := 0, slots := 0, locals := 75 } : Room)) (hC : Cx K cX8_value 9 RX8) {po : Int → St → Prop} (hM : Mx K (some .int) (PI po)) : ∀ (n : Nat) (x1 : Int) (x5 : Int) (x6 : Int) (x7 : Int) (x8 : Int) (σ : St), wp_X8_value_158 po n x1 x5 x6 x7 x8 σ → J K 158 [some (wr 30 (some 0)), some (wi x1), none, none, none, some (wi x5), some (wi x6), some (wi x7), some (wi x8)] [] σ 0 0 := by
  intro n
  induction n with
  | zero =>
    intro x1 x5 x6 x7 x8 σ hw
    exact False.elim hw
  | succ n ih =>
    intro x1 x5 x6 x7 x8 σ hw
    unfold wp_X8_value_158 at hw
    refine r_iload hC dX8_value_158 rfl ?_
    refine r_bipush hC dX8_value_160 (by decide) ?_
    refine r_icmp_ge (tgt := 185) hC dX8_value_162 (by decide) (fun h => ?_) (fun h => ?_)
    · replace hw := hw.1 h
      refine r_aload_n hC dX8_value_185 rfl ?_
      refine gf_X8_20 hC dX8_value_186 ?_
      refine r_iload_n hC dX8_value_189 rfl ?_
      refine r_iconst hC dX8_value_190 ?_
      refine r_iastore hC rfl (by decide) hw.1 dX8_value_191 (fun s110 e9 => ?_)
      replace hw := hw.2 s110 e9
      clear e9
      refine r_iload hC dX8_value_192 rfl ?_
      refine r_if_eq (tgt := 206) hC dX8_value_194 (by decide) (fun h => ?_) (fun h => ?_)
      · replace hw := hw.1 h
        refine r_iconst hC dX8_value_206 ?_
        exact r_ireturn hC hM ⟨_, rfl, hw⟩ (by rw [hR]; decide) (by rw [hR]; decide) dX8_value_207
      · replace hw := hw.2 h
        refine r_aload_n hC dX8_value_197 rfl ?_
        refine r_iload hC dX8_value_198 rfl ?_
        refine r_bipush hC dX8_value_200 (by decide) ?_
        refine r_isub hC dX8_value_202 ?_
        refine cl_X8_160 hC (c_X8_serve (kL K) hw) (by rw [hR]; decide) (Nat.le_of_ble_eq_true rfl) dX8_value_203 (fun s111 hq => ?_)
        clear hw
        have hw := hq
        clear hq
        refine r_iconst hC dX8_value_206 ?_
        exact r_ireturn hC hM ⟨_, rfl, hw⟩ (by rw [hR]; decide) (by rw [hR]; decide) dX8_value_207
    · replace hw := hw.2 h
      refine r_aload_n hC dX8_value_165 rfl ?_
      refine gf_X8_129 hC dX8_value_166 ?_
      refine r_bipush hC dX8_value_169 (by decide) ?_
      refine r_iload hC dX8_value_171 rfl ?_
      refine r_imul hC dX8_value_173 ?_
      refine r_iload hC dX8_value_174 rfl ?_
      refine r_iadd hC dX8_value_176 ?_
      refine r_iconst hC dX8_value_177 ?_
      refine r_iastore hC rfl (by decide) hw.1 dX8_value_178 (fun s112 e9 => ?_)
      replace hw := hw.2 s112 e9
      clear e9
      refine r_iinc (l' := [_, _, _, _, _, _, _, _, _]) hC dX8_value_179 rfl rfl (by decide) rfl ?_
      refine r_goto (tgt := 158) hC dX8_value_182 (by decide) ?_
      exact J.drop2 (ih x1 x5 x6 x7 (x8 + 1) s112 hw) ⟨rfl, rfl, rfl, rfl, rfl, rfl, trivial⟩
def wp_X8_value (x1 : Int) (x2 : Int) (x3 : Int) (x4 : Int) (σ : St) (po : Int → St → Prop) : Prop := wp_X8_isProcess x1 σ (fun r101 s101 => (nm r101 ≠ 0 → wp_X8_isFree x1 s101 (fun r102 s102 => (nm r102 ≠ 0 → wp_X8_in (nm x4) 0 32767 s102 (fun r103 s103 => (nm r103 ≠ 0 → wp_X8_slotOf x2 12 s103 (fun r104 s104 => (nm r104 = nm (-1) → wp_X8_tells x1 (-5) s104 (fun r105 s105 => po r105 s105)) ∧
 (nm r104 ≠ nm (-1) → (0 ≤ nm (r104 - 12) ∧ nm (r104 - 12) < 12) ∧ wp_X8_in (nm x3) 0 (nm ((gI s104 110 38 (nm (r104 - 12)).toNat) - 1)) s104 (fun r106 s106 => (nm r106 ≠ 0 → wp_X8_hasAll x1 r104 2 s106 (fun r107 s107 => (nm r107 ≠ 0 → (0 ≤ nm ((8 * (r104 - 12)) + x3) ∧ nm ((8 * (r104 - 12)) + x3) < 96) ∧ (nm (gI s107 110 39 (nm ((8 * (r104 - 12)) + x3)).toNat) = nm x4 → (0 ≤ nm ((8 * (r104 - 12)) + x3) ∧ nm ((8 * (r104 - 12)) + x3) < 96) ∧ ∀ s108, s108 = uI s107 110 39 (nm ((8 * (r104 - 12)) + x3)).toNat x4 → (0 ≤ nm ((8 * (r104 - 12)) + x3) ∧ nm ((8 * (r104 - 12)) + x3) < 96) ∧ ∀ s109, s109 = uI s108 110 40 (nm ((8 * (r104 - 12)) + x3)).toNat x1 → ∃ n9, wp_X8_value_158 po n9 x1 r104 ((8 * (r104 - 12)) + x3) 0 0 s109) ∧
 (nm (gI s107 110 39 (nm ((8 * (r104 - 12)) + x3)).toNat) ≠ nm x4 → (0 ≤ nm ((8 * (r104 - 12)) + x3) ∧ nm ((8 * (r104 - 12)) + x3) < 96) ∧ ∀ s113, s113 = uI s107 110 39 (nm ((8 * (r104 - 12)) + x3)).toNat x4 → (0 ≤ nm ((8 * (r104 - 12)) + x3) ∧ nm ((8 * (r104 - 12)) + x3) < 96) ∧ ∀ s114, s114 = uI s113 110 40 (nm ((8 * (r104 - 12)) + x3)).toNat x1 → ∃ n9, wp_X8_value_158 po n9 x1 r104 ((8 * (r104 - 12)) + x3) 1 0 s114)) ∧
 (nm r107 = 0 → wp_X8_tells x1 (-6) s107 (fun r108 s115 => po r108 s115)))) ∧
 (nm r106 = 0 → wp_X8_tells x1 (-5) s106 (fun r109 s116 => po r109 s116)))))) ∧
 (nm r103 = 0 → wp_X8_tells x1 (-4) s103 (fun r110 s117 => po r110 s117)))) ∧
 (nm r102 = 0 → po (-3) s102))) ∧
 (nm r101 = 0 → po (-2) s101))
set_option maxRecDepth 100000 in
set_option maxHeartbeats 4000000 in
theorem c_X8_value (l : Launch) {x1 : Int} {x2 : Int} {x3 : Int} {x4 : Int} {σ : St} {po : Int → St → Prop} (hw : wp_X8_value x1 x2 x3 x4 σ po) : MT l yX8_value cX8_value 9 (some .int) ({ frames := 3, cells := 0, slots := 0, locals := 75 } : Room) [wr 30 (some 0), wi x1, wi x2, wi x3, wi x4] σ (PI po) := by
  refine MT_of (by decide) (Nat.le_of_ble_eq_true rfl) (fun K hL hR hC hM => ?_)
  subst hL
  unfold wp_X8_value at hw
  show J K 0 [some (wr 30 (some 0)), some (wi x1), some (wi x2), some (wi x3), some (wi x4), none, none, none, none] [] σ 0 0
  refine r_aload_n hC dX8_value_0 rfl ?_
  refine r_iload_n hC dX8_value_1 rfl ?_
  refine cl_X8_152 hC (c_X8_isProcess (kL K) hw) (by rw [hR]; decide) (Nat.le_of_ble_eq_true rfl) dX8_value_2 (fun r101 s101 hq => ?_)
  clear hw
  have hw := hq
  clear hq
  refine r_if_ne (tgt := 11) hC dX8_value_5 (by decide) (fun h => ?_) (fun h => ?_)
  · replace hw := hw.1 h
    refine r_aload_n hC dX8_value_11 rfl ?_
    refine r_iload_n hC dX8_value_12 rfl ?_
    refine cl_X8_173 hC (c_X8_isFree (kL K) hw) (by rw [hR]; decide) (Nat.le_of_ble_eq_true rfl) dX8_value_13 (fun r102 s102 hq => ?_)
    clear hw
    have hw := hq
    clear hq
    refine r_if_ne (tgt := 22) hC dX8_value_16 (by decide) (fun h => ?_) (fun h => ?_)
    · replace hw := hw.1 h
      refine r_iload hC dX8_value_22 rfl ?_
      refine r_i2l hC dX8_value_24 ?_
      refine r_lconst hC 0 rfl dX8_value_25 ?_
      refine r_ldc2 hC 32767 (wg 955 (by decide +kernel) (by decide +kernel)) rfl dX8_value_26 ?_
      refine cl_X8_142 hC (c_X8_in (kL K) hw) (by rw [hR]; decide) (Nat.le_of_ble_eq_true rfl) dX8_value_29 (fun r103 s103 hq => ?_)
      clear hw
      have hw := hq
      clear hq
      refine r_if_ne (tgt := 43) hC dX8_value_32 (by decide) (fun h => ?_) (fun h => ?_)
      · replace hw := hw.1 h
        refine r_aload_n hC dX8_value_43 rfl ?_
        refine r_iload_n hC dX8_value_44 rfl ?_
        refine r_bipush hC dX8_value_45 (by decide) ?_
        refine cl_X8_206 hC (c_X8_slotOf (kL K) hw) (by rw [hR]; decide) (Nat.le_of_ble_eq_true rfl) dX8_value_47 (fun r104 s104 hq => ?_)
        clear hw
        have hw := hq
        clear hq
        refine r_istore (l' := [_, _, _, _, _, _, _, _, _]) hC dX8_value_50 rfl (by decide) rfl ?_
        refine r_iload hC dX8_value_52 rfl ?_
        refine r_iconst hC dX8_value_54 ?_
        refine r_icmp_eq (tgt := 80) hC dX8_value_55 (by decide) (fun h => ?_) (fun h => ?_)
        · replace hw := hw.1 h
          refine r_aload_n hC dX8_value_80 rfl ?_
          refine r_iload_n hC dX8_value_81 rfl ?_
          refine r_bipush hC dX8_value_82 (by decide) ?_
          refine cl_X8_180 hC (c_X8_tells (kL K) hw) (by rw [hR]; decide) (Nat.le_of_ble_eq_true rfl) dX8_value_84 (fun r105 s105 hq => ?_)
          clear hw
          have hw := hq
          clear hq
          exact r_ireturn hC hM ⟨_, rfl, hw⟩ (by rw [hR]; decide) (by rw [hR]; decide) dX8_value_87
        · replace hw := hw.2 h
          refine r_iload_n hC dX8_value_58 rfl ?_
          refine r_i2l hC dX8_value_59 ?_
          refine r_lconst hC 0 rfl dX8_value_60 ?_
          refine r_aload_n hC dX8_value_61 rfl ?_
          refine gf_X8_120 hC dX8_value_62 ?_
          refine r_iload hC dX8_value_65 rfl ?_
          refine r_bipush hC dX8_value_67 (by decide) ?_
          refine r_isub hC dX8_value_69 ?_
          refine r_iaload hC rfl (by decide) hw.1 dX8_value_70 ?_
          replace hw := hw.2
          refine r_iconst hC dX8_value_71 ?_
          refine r_isub hC dX8_value_72 ?_
          refine r_i2l hC dX8_value_73 ?_
          refine cl_X8_142 hC (c_X8_in (kL K) hw) (by rw [hR]; decide) (Nat.le_of_ble_eq_true rfl) dX8_value_74 (fun r106 s106 hq => ?_)
          clear hw
          have hw := hq
          clear hq
          refine r_if_ne (tgt := 88) hC dX8_value_77 (by decide) (fun h => ?_) (fun h => ?_)
          · replace hw := hw.1 h
            refine r_aload_n hC dX8_value_88 rfl ?_
            refine r_iload_n hC dX8_value_89 rfl ?_
            refine r_iload hC dX8_value_90 rfl ?_
            refine r_iconst hC dX8_value_92 ?_
            refine cl_X8_190 hC (c_X8_hasAll (kL K) hw) (by rw [hR]; decide) (Nat.le_of_ble_eq_true rfl) dX8_value_93 (fun r107 s107 hq => ?_)
            clear hw
            have hw := hq
            clear hq
            refine r_if_ne (tgt := 107) hC dX8_value_96 (by decide) (fun h => ?_) (fun h => ?_)
            · replace hw := hw.1 h
              refine r_bipush hC dX8_value_107 (by decide) ?_
              refine r_iload hC dX8_value_109 rfl ?_
              refine r_bipush hC dX8_value_111 (by decide) ?_
              refine r_isub hC dX8_value_113 ?_
              refine r_imul hC dX8_value_114 ?_
              refine r_iload_n hC dX8_value_115 rfl ?_
              refine r_iadd hC dX8_value_116 ?_
              refine r_istore (l' := [_, _, _, _, _, _, _, _, _]) hC dX8_value_117 rfl (by decide) rfl ?_
              refine r_aload_n hC dX8_value_119 rfl ?_
              refine gf_X8_123 hC dX8_value_120 ?_
              refine r_iload hC dX8_value_123 rfl ?_
              refine r_iaload hC rfl (by decide) hw.1 dX8_value_125 ?_
              replace hw := hw.2
              refine r_iload hC dX8_value_126 rfl ?_
              refine r_icmp_eq (tgt := 135) hC dX8_value_128 (by decide) (fun h => ?_) (fun h => ?_)
              · replace hw := hw.1 h
                refine r_iconst hC dX8_value_135 ?_
                refine r_istore (l' := [_, _, _, _, _, _, _, _, _]) hC dX8_value_136 rfl (by decide) rfl ?_
                refine r_aload_n hC dX8_value_138 rfl ?_
                refine gf_X8_123 hC dX8_value_139 ?_
                refine r_iload hC dX8_value_142 rfl ?_
                refine r_iload hC dX8_value_144 rfl ?_
                refine r_iastore hC rfl (by decide) hw.1 dX8_value_146 (fun s108 e9 => ?_)
                replace hw := hw.2 s108 e9
                clear e9
                refine r_aload_n hC dX8_value_147 rfl ?_
                refine gf_X8_126 hC dX8_value_148 ?_
                refine r_iload hC dX8_value_151 rfl ?_
                refine r_iload_n hC dX8_value_153 rfl ?_
                refine r_iastore hC rfl (by decide) hw.1 dX8_value_154 (fun s109 e9 => ?_)
                replace hw := hw.2 s109 e9
                clear e9
                refine r_iconst hC dX8_value_155 ?_
                refine r_istore (l' := [_, _, _, _, _, _, _, _, _]) hC dX8_value_156 rfl (by decide) rfl ?_
                obtain ⟨n9, hw⟩ := hw
                exact J.drop2 (j_X8_value_158 hR hC hM n9 x1 r104 ((8 * (r104 - 12)) + x3) 0 0 s109 hw) ⟨rfl, rfl, rfl, rfl, rfl, rfl, trivial⟩
              · replace hw := hw.2 h
                refine r_iconst hC dX8_value_131 ?_
                refine r_goto (tgt := 136) hC dX8_value_132 (by decide) ?_
                refine r_istore (l' := [_, _, _, _, _, _, _, _, _]) hC dX8_value_136 rfl (by decide) rfl ?_
                refine r_aload_n hC dX8_value_138 rfl ?_
                refine gf_X8_123 hC dX8_value_139 ?_
                refine r_iload hC dX8_value_142 rfl ?_
                refine r_iload hC dX8_value_144 rfl ?_
                refine r_iastore hC rfl (by decide) hw.1 dX8_value_146 (fun s113 e9 => ?_)
                replace hw := hw.2 s113 e9
                clear e9
                refine r_aload_n hC dX8_value_147 rfl ?_
                refine gf_X8_126 hC dX8_value_148 ?_
                refine r_iload hC dX8_value_151 rfl ?_
                refine r_iload_n hC dX8_value_153 rfl ?_
                refine r_iastore hC rfl (by decide) hw.1 dX8_value_154 (fun s114 e9 => ?_)
                replace hw := hw.2 s114 e9
                clear e9
                refine r_iconst hC dX8_value_155 ?_
                refine r_istore (l' := [_, _, _, _, _, _, _, _, _]) hC dX8_value_156 rfl (by decide) rfl ?_
                obtain ⟨n9, hw⟩ := hw
                exact J.drop2 (j_X8_value_158 hR hC hM n9 x1 r104 ((8 * (r104 - 12)) + x3) 1 0 s114 hw) ⟨rfl, rfl, rfl, rfl, rfl, rfl, trivial⟩
            · replace hw := hw.2 h
              refine r_aload_n hC dX8_value_99 rfl ?_
              refine r_iload_n hC dX8_value_100 rfl ?_
              refine r_bipush hC dX8_value_101 (by decide) ?_
              refine cl_X8_180 hC (c_X8_tells (kL K) hw) (by rw [hR]; decide) (Nat.le_of_ble_eq_true rfl) dX8_value_103 (fun r108 s115 hq => ?_)
              clear hw
              have hw := hq
              clear hq
              exact r_ireturn hC hM ⟨_, rfl, hw⟩ (by rw [hR]; decide) (by rw [hR]; decide) dX8_value_106
          · replace hw := hw.2 h
            refine r_aload_n hC dX8_value_80 rfl ?_
            refine r_iload_n hC dX8_value_81 rfl ?_
            refine r_bipush hC dX8_value_82 (by decide) ?_
            refine cl_X8_180 hC (c_X8_tells (kL K) hw) (by rw [hR]; decide) (Nat.le_of_ble_eq_true rfl) dX8_value_84 (fun r109 s116 hq => ?_)
            clear hw
            have hw := hq
            clear hq
            exact r_ireturn hC hM ⟨_, rfl, hw⟩ (by rw [hR]; decide) (by rw [hR]; decide) dX8_value_87
      · replace hw := hw.2 h
        refine r_aload_n hC dX8_value_35 rfl ?_
        refine r_iload_n hC dX8_value_36 rfl ?_
        refine r_bipush hC dX8_value_37 (by decide) ?_
        refine cl_X8_180 hC (c_X8_tells (kL K) hw) (by rw [hR]; decide) (Nat.le_of_ble_eq_true rfl) dX8_value_39 (fun r110 s117 hq => ?_)
        clear hw
        have hw := hq
        clear hq
        exact r_ireturn hC hM ⟨_, rfl, hw⟩ (by rw [hR]; decide) (by rw [hR]; decide) dX8_value_42
    · replace hw := hw.2 h
      refine r_bipush hC dX8_value_19 (by decide) ?_
      exact r_ireturn hC hM ⟨_, rfl, hw⟩ (by rw [hR]; decide) (by rw [hR]; decide) dX8_value_21
  · replace hw := hw.2 h
    refine r_bipush hC dX8_value_8 (by decide) ?_
    exact r_ireturn hC hM ⟨_, rfl, hw⟩ (by rw [hR]; decide) (by rw [hR]; decide) dX8_value_10
def wp_X8_waiting_5 (po : Int → St → Prop) : Nat → Int → Int → Int → Int → St → Prop
  | 0, _, _, _, _, _ => False
  | n + 1, x1, x2, x3, x4, σ => (nm (gI σ 100 0 0) ≤ nm x4 → po x3 σ) ∧
 (nm x4 < nm (gI σ 100 0 0) → (0 ≤ nm x4 ∧ nm x4 < 16) ∧ (nm (gI σ 110 7 (nm x4).toNat) ≠ nm x1 → wp_X8_waiting_5 po n x1 x2 (x3 + 0) (x4 + 1) σ) ∧
 (nm (gI σ 110 7 (nm x4).toNat) = nm x1 → (0 ≤ nm x4 ∧ nm x4 < 16) ∧ (nm (gI σ 110 9 (nm x4).toNat) ≠ nm x2 → wp_X8_waiting_5 po n x1 x2 (x3 + 0) (x4 + 1) σ) ∧
 (nm (gI σ 110 9 (nm x4).toNat) = nm x2 → wp_X8_waiting_5 po n x1 x2 (x3 + 1) (x4 + 1) σ)))
set_option maxRecDepth 100000 in
set_option maxHeartbeats 4000000 in
theorem j_X8_waiting_5 {K : JK} (hR : kRm K = ({ frames := 0, cells := 0, slots := 0, locals := 0 } : Room)) (hC : Cx K cX8_waiting 5 RX8) {po : Int → St → Prop} (hM : Mx K (some .int) (PI po)) : ∀ (n : Nat) (x1 : Int) (x2 : Int) (x3 : Int) (x4 : Int) (σ : St), wp_X8_waiting_5 po n x1 x2 x3 x4 σ → J K 5 [some (wr 30 (some 0)), some (wi x1), some (wi x2), some (wi x3), some (wi x4)] [] σ 0 0 := by
  intro n
  induction n with
  | zero =>
    intro x1 x2 x3 x4 σ hw
    exact False.elim hw
  | succ n ih =>
    intro x1 x2 x3 x4 σ hw
    unfold wp_X8_waiting_5 at hw
    refine r_iload hC dX8_waiting_5 rfl ?_
    refine r_aload_n hC dX8_waiting_7 rfl ?_
    refine gf_X8_138 hC dX8_waiting_8 ?_
    refine r_icmp_ge (tgt := 50) hC dX8_waiting_11 (by decide) (fun h => ?_) (fun h => ?_)
    · replace hw := hw.1 h
      refine r_iload_n hC dX8_waiting_50 rfl ?_
      exact r_ireturn hC hM ⟨_, rfl, hw⟩ (by rw [hR]; decide) (by rw [hR]; decide) dX8_waiting_51
    · replace hw := hw.2 h
      refine r_iload_n hC dX8_waiting_14 rfl ?_
      refine r_aload_n hC dX8_waiting_15 rfl ?_
      refine gf_X8_30 hC dX8_waiting_16 ?_
      refine r_iload hC dX8_waiting_19 rfl ?_
      refine r_iaload hC rfl (by decide) hw.1 dX8_waiting_21 ?_
      replace hw := hw.2
      refine r_iload_n hC dX8_waiting_22 rfl ?_
      refine r_icmp_ne (tgt := 41) hC dX8_waiting_23 (by decide) (fun h => ?_) (fun h => ?_)
      · replace hw := hw.1 h
        refine r_iconst hC dX8_waiting_41 ?_
        refine r_iadd hC dX8_waiting_42 ?_
        refine r_istore_n (l' := [_, _, _, _, _]) hC dX8_waiting_43 rfl (by decide) rfl ?_
        refine r_iinc (l' := [_, _, _, _, _]) hC dX8_waiting_44 rfl rfl (by decide) rfl ?_
        refine r_goto (tgt := 5) hC dX8_waiting_47 (by decide) ?_
        exact J.drop2 (ih x1 x2 (x3 + 0) (x4 + 1) σ hw) ⟨rfl, rfl, rfl, rfl, rfl, trivial⟩
      · replace hw := hw.2 h
        refine r_aload_n hC dX8_waiting_26 rfl ?_
        refine gf_X8_36 hC dX8_waiting_27 ?_
        refine r_iload hC dX8_waiting_30 rfl ?_
        refine r_iaload hC rfl (by decide) hw.1 dX8_waiting_32 ?_
        replace hw := hw.2
        refine r_iload_n hC dX8_waiting_33 rfl ?_
        refine r_icmp_ne (tgt := 41) hC dX8_waiting_34 (by decide) (fun h => ?_) (fun h => ?_)
        · replace hw := hw.1 h
          refine r_iconst hC dX8_waiting_41 ?_
          refine r_iadd hC dX8_waiting_42 ?_
          refine r_istore_n (l' := [_, _, _, _, _]) hC dX8_waiting_43 rfl (by decide) rfl ?_
          refine r_iinc (l' := [_, _, _, _, _]) hC dX8_waiting_44 rfl rfl (by decide) rfl ?_
          refine r_goto (tgt := 5) hC dX8_waiting_47 (by decide) ?_
          exact J.drop2 (ih x1 x2 (x3 + 0) (x4 + 1) σ hw) ⟨rfl, rfl, rfl, rfl, rfl, trivial⟩
        · replace hw := hw.2 h
          refine r_iconst hC dX8_waiting_37 ?_
          refine r_goto (tgt := 42) hC dX8_waiting_38 (by decide) ?_
          refine r_iadd hC dX8_waiting_42 ?_
          refine r_istore_n (l' := [_, _, _, _, _]) hC dX8_waiting_43 rfl (by decide) rfl ?_
          refine r_iinc (l' := [_, _, _, _, _]) hC dX8_waiting_44 rfl rfl (by decide) rfl ?_
          refine r_goto (tgt := 5) hC dX8_waiting_47 (by decide) ?_
          exact J.drop2 (ih x1 x2 (x3 + 1) (x4 + 1) σ hw) ⟨rfl, rfl, rfl, rfl, rfl, trivial⟩
def wp_X8_waiting (x1 : Int) (x2 : Int) (σ : St) (po : Int → St → Prop) : Prop := ∃ n9, wp_X8_waiting_5 po n9 x1 x2 0 0 σ
set_option maxRecDepth 100000 in
set_option maxHeartbeats 4000000 in
theorem c_X8_waiting (l : Launch) {x1 : Int} {x2 : Int} {σ : St} {po : Int → St → Prop} (hw : wp_X8_waiting x1 x2 σ po) : MT l yX8_waiting cX8_waiting 5 (some .int) ({ frames := 0, cells := 0, slots := 0, locals := 0 } : Room) [wr 30 (some 0), wi x1, wi x2] σ (PI po) := by
  refine MT_of (by decide) (Nat.le_of_ble_eq_true rfl) (fun K hL hR hC hM => ?_)
  subst hL
  unfold wp_X8_waiting at hw
  show J K 0 [some (wr 30 (some 0)), some (wi x1), some (wi x2), none, none] [] σ 0 0
  refine r_iconst hC dX8_waiting_0 ?_
  refine r_istore_n (l' := [_, _, _, _, _]) hC dX8_waiting_1 rfl (by decide) rfl ?_
  refine r_iconst hC dX8_waiting_2 ?_
  refine r_istore (l' := [_, _, _, _, _]) hC dX8_waiting_3 rfl (by decide) rfl ?_
  obtain ⟨n9, hw⟩ := hw
  exact J.drop2 (j_X8_waiting_5 hR hC hM n9 x1 x2 0 0 σ hw) ⟨rfl, rfl, rfl, rfl, rfl, trivial⟩
def wp_X8_thing (x1 : Int) (x2 : Int) (σ : St) (po : Int → St → Prop) : Prop := (nm x2 = 0 → wp_X8_idOf x1 σ (fun r101 s101 => po r101 s101)) ∧
 (nm x2 = 1 → (0 ≤ nm x1 ∧ nm x1 < 24) ∧ po (gI σ 110 26 (nm x1).toNat) σ) ∧
 (nm x2 = 2 → (0 ≤ nm x1 ∧ nm x1 < 24) ∧ po (gI σ 110 27 (nm x1).toNat) σ) ∧
 (nm x2 = 3 → (0 ≤ nm x1 ∧ nm x1 < 24) ∧ po (gI σ 110 28 (nm x1).toNat) σ) ∧
 (nm x2 = 4 → (0 ≤ nm x1 ∧ nm x1 < 24) ∧ po (gI σ 110 29 (nm x1).toNat) σ) ∧
 (nm x2 = 5 → (0 ≤ nm x1 ∧ nm x1 < 24) ∧ po (gI σ 110 30 (nm x1).toNat) σ) ∧
 ((nm x2 < 0 ∨ 5 < nm x2) → (0 ≤ nm x1 ∧ nm x1 < 24) ∧ po (gI σ 110 31 (nm x1).toNat) σ)
set_option maxRecDepth 100000 in
set_option maxHeartbeats 4000000 in
theorem c_X8_thing (l : Launch) {x1 : Int} {x2 : Int} {σ : St} {po : Int → St → Prop} (hw : wp_X8_thing x1 x2 σ po) : MT l yX8_thing cX8_thing 3 (some .int) ({ frames := 1, cells := 0, slots := 0, locals := 21 } : Room) [wr 30 (some 0), wi x1, wi x2] σ (PI po) := by
  refine MT_of (by decide) (Nat.le_of_ble_eq_true rfl) (fun K hL hR hC hM => ?_)
  subst hL
  unfold wp_X8_thing at hw
  show J K 0 [some (wr 30 (some 0)), some (wi x1), some (wi x2)] [] σ 0 0
  refine r_iload_n hC dX8_thing_0 rfl ?_
  have hsw : nm x2 = 0 ∨ nm x2 = 1 ∨ nm x2 = 2 ∨ nm x2 = 3 ∨ nm x2 = 4 ∨ nm x2 = 5 ∨ (nm x2 < 0 ∨ 5 < nm x2) := by omega
  rcases hsw with h | h | h | h | h | h | h
  · replace hw := hw.1 h
    refine r_tabIn (tgt := 40) hC 0 h dX8_thing_1 (by decide) (by decide) rfl (by decide) ?_
    refine r_aload_n hC dX8_thing_40 rfl ?_
    refine r_iload_n hC dX8_thing_41 rfl ?_
    refine cl_X8_194 hC (c_X8_idOf (kL K) hw) (by rw [hR]; decide) (Nat.le_of_ble_eq_true rfl) dX8_thing_42 (fun r101 s101 hq => ?_)
    clear hw
    have hw := hq
    clear hq
    exact r_ireturn hC hM ⟨_, rfl, hw⟩ (by rw [hR]; decide) (by rw [hR]; decide) dX8_thing_45
  · replace hw := hw.2.1 h
    refine r_tabIn (tgt := 46) hC 1 h dX8_thing_1 (by decide) (by decide) rfl (by decide) ?_
    refine r_aload_n hC dX8_thing_46 rfl ?_
    refine gf_X8_84 hC dX8_thing_47 ?_
    refine r_iload_n hC dX8_thing_50 rfl ?_
    refine r_iaload hC rfl (by decide) hw.1 dX8_thing_51 ?_
    replace hw := hw.2
    exact r_ireturn hC hM ⟨_, rfl, hw⟩ (by rw [hR]; decide) (by rw [hR]; decide) dX8_thing_52
  · replace hw := hw.2.2.1 h
    refine r_tabIn (tgt := 53) hC 2 h dX8_thing_1 (by decide) (by decide) rfl (by decide) ?_
    refine r_aload_n hC dX8_thing_53 rfl ?_
    refine gf_X8_87 hC dX8_thing_54 ?_
    refine r_iload_n hC dX8_thing_57 rfl ?_
    refine r_iaload hC rfl (by decide) hw.1 dX8_thing_58 ?_
    replace hw := hw.2
    exact r_ireturn hC hM ⟨_, rfl, hw⟩ (by rw [hR]; decide) (by rw [hR]; decide) dX8_thing_59
  · replace hw := hw.2.2.2.1 h
    refine r_tabIn (tgt := 60) hC 3 h dX8_thing_1 (by decide) (by decide) rfl (by decide) ?_
    refine r_aload_n hC dX8_thing_60 rfl ?_
    refine gf_X8_90 hC dX8_thing_61 ?_
    refine r_iload_n hC dX8_thing_64 rfl ?_
    refine r_iaload hC rfl (by decide) hw.1 dX8_thing_65 ?_
    replace hw := hw.2
    exact r_ireturn hC hM ⟨_, rfl, hw⟩ (by rw [hR]; decide) (by rw [hR]; decide) dX8_thing_66
  · replace hw := hw.2.2.2.2.1 h
    refine r_tabIn (tgt := 67) hC 4 h dX8_thing_1 (by decide) (by decide) rfl (by decide) ?_
    refine r_aload_n hC dX8_thing_67 rfl ?_
    refine gf_X8_93 hC dX8_thing_68 ?_
    refine r_iload_n hC dX8_thing_71 rfl ?_
    refine r_iaload hC rfl (by decide) hw.1 dX8_thing_72 ?_
    replace hw := hw.2
    exact r_ireturn hC hM ⟨_, rfl, hw⟩ (by rw [hR]; decide) (by rw [hR]; decide) dX8_thing_73
  · replace hw := hw.2.2.2.2.2.1 h
    refine r_tabIn (tgt := 74) hC 5 h dX8_thing_1 (by decide) (by decide) rfl (by decide) ?_
    refine r_aload_n hC dX8_thing_74 rfl ?_
    refine gf_X8_96 hC dX8_thing_75 ?_
    refine r_iload_n hC dX8_thing_78 rfl ?_
    refine r_iaload hC rfl (by decide) hw.1 dX8_thing_79 ?_
    replace hw := hw.2
    exact r_ireturn hC hM ⟨_, rfl, hw⟩ (by rw [hR]; decide) (by rw [hR]; decide) dX8_thing_80
  · replace hw := hw.2.2.2.2.2.2 h
    refine r_tabOut (tgt := 81) hC h dX8_thing_1 (by decide) ?_
    refine r_aload_n hC dX8_thing_81 rfl ?_
    refine gf_X8_99 hC dX8_thing_82 ?_
    refine r_iload_n hC dX8_thing_85 rfl ?_
    refine r_iaload hC rfl (by decide) hw.1 dX8_thing_86 ?_
    replace hw := hw.2
    exact r_ireturn hC hM ⟨_, rfl, hw⟩ (by rw [hR]; decide) (by rw [hR]; decide) dX8_thing_87
def wp_X8_queueOf (x1 : Int) (x2 : Int) (σ : St) (po : Int → St → Prop) : Prop := wp_X8_in (nm x2) 0 11 σ (fun r101 s101 => (nm r101 ≠ 0 → wp_X8_in (nm x1) 0 11 s101 (fun r102 s102 => (nm r102 = 0 → po (-1) s102) ∧
 (nm r102 ≠ 0 → (0 ≤ nm x1 ∧ nm x1 < 24) ∧ (nm (gI s102 110 24 (nm x1).toNat) ≠ 0 → (nm x2 = 7 → (0 ≤ nm x1 ∧ nm x1 < 12) ∧ po (gI s102 110 32 (nm x1).toNat) s102) ∧
 (nm x2 = 8 → (0 ≤ nm x1 ∧ nm x1 < 12) ∧ po (gI s102 110 33 (nm x1).toNat) s102) ∧
 (nm x2 = 9 → (0 ≤ nm x1 ∧ nm x1 < 12) ∧ po (gI s102 110 34 (nm x1).toNat) s102) ∧
 (nm x2 = 10 → wp_X8_waiting 1 x1 s102 (fun r103 s103 => po r103 s103)) ∧
 (nm x2 = 11 → wp_X8_waiting 2 x1 s102 (fun r104 s104 => po r104 s104)) ∧
 ((nm x2 < 7 ∨ 11 < nm x2) → wp_X8_thing x1 x2 s102 (fun r105 s105 => po r105 s105))) ∧
 (nm (gI s102 110 24 (nm x1).toNat) = 0 → po (-1) s102)))) ∧
 (nm r101 = 0 → po (-4) s101))
set_option maxRecDepth 100000 in
set_option maxHeartbeats 4000000 in
theorem c_X8_queueOf (l : Launch) {x1 : Int} {x2 : Int} {σ : St} {po : Int → St → Prop} (hw : wp_X8_queueOf x1 x2 σ po) : MT l yX8_queueOf cX8_queueOf 3 (some .int) ({ frames := 2, cells := 0, slots := 0, locals := 43 } : Room) [wr 30 (some 0), wi x1, wi x2] σ (PI po) := by
  refine MT_of (by decide) (Nat.le_of_ble_eq_true rfl) (fun K hL hR hC hM => ?_)
  subst hL
  unfold wp_X8_queueOf at hw
  show J K 0 [some (wr 30 (some 0)), some (wi x1), some (wi x2)] [] σ 0 0
  refine r_iload_n hC dX8_queueOf_0 rfl ?_
  refine r_i2l hC dX8_queueOf_1 ?_
  refine r_lconst hC 0 rfl dX8_queueOf_2 ?_
  refine r_ldc2 hC 11 (wg 1105 (by decide +kernel) (by decide +kernel)) rfl dX8_queueOf_3 ?_
  refine cl_X8_142 hC (c_X8_in (kL K) hw) (by rw [hR]; decide) (Nat.le_of_ble_eq_true rfl) dX8_queueOf_6 (fun r101 s101 hq => ?_)
  clear hw
  have hw := hq
  clear hq
  refine r_if_ne (tgt := 15) hC dX8_queueOf_9 (by decide) (fun h => ?_) (fun h => ?_)
  · replace hw := hw.1 h
    refine r_iload_n hC dX8_queueOf_15 rfl ?_
    refine r_i2l hC dX8_queueOf_16 ?_
    refine r_lconst hC 0 rfl dX8_queueOf_17 ?_
    refine r_ldc2 hC 11 (wg 1105 (by decide +kernel) (by decide +kernel)) rfl dX8_queueOf_18 ?_
    refine cl_X8_142 hC (c_X8_in (kL K) hw) (by rw [hR]; decide) (Nat.le_of_ble_eq_true rfl) dX8_queueOf_21 (fun r102 s102 hq => ?_)
    clear hw
    have hw := hq
    clear hq
    refine r_if_eq (tgt := 36) hC dX8_queueOf_24 (by decide) (fun h => ?_) (fun h => ?_)
    · replace hw := hw.1 h
      refine r_iconst hC dX8_queueOf_36 ?_
      exact r_ireturn hC hM ⟨_, rfl, hw⟩ (by rw [hR]; decide) (by rw [hR]; decide) dX8_queueOf_37
    · replace hw := hw.2 h
      refine r_aload_n hC dX8_queueOf_27 rfl ?_
      refine gf_X8_78 hC dX8_queueOf_28 ?_
      refine r_iload_n hC dX8_queueOf_31 rfl ?_
      refine r_zaload hC rfl (by decide) hw.1 dX8_queueOf_32 ?_
      replace hw := hw.2
      refine r_if_ne (tgt := 38) hC dX8_queueOf_33 (by decide) (fun h => ?_) (fun h => ?_)
      · replace hw := hw.1 h
        refine r_iload_n hC dX8_queueOf_38 rfl ?_
        have hsw : nm x2 = 7 ∨ nm x2 = 8 ∨ nm x2 = 9 ∨ nm x2 = 10 ∨ nm x2 = 11 ∨ (nm x2 < 7 ∨ 11 < nm x2) := by omega
        rcases hsw with h | h | h | h | h | h
        · replace hw := hw.1 h
          refine r_tabIn (tgt := 72) hC 7 h dX8_queueOf_39 (by decide) (by decide) rfl (by decide) ?_
          refine r_aload_n hC dX8_queueOf_72 rfl ?_
          refine gf_X8_102 hC dX8_queueOf_73 ?_
          refine r_iload_n hC dX8_queueOf_76 rfl ?_
          refine r_iaload hC rfl (by decide) hw.1 dX8_queueOf_77 ?_
          replace hw := hw.2
          exact r_ireturn hC hM ⟨_, rfl, hw⟩ (by rw [hR]; decide) (by rw [hR]; decide) dX8_queueOf_78
        · replace hw := hw.2.1 h
          refine r_tabIn (tgt := 79) hC 8 h dX8_queueOf_39 (by decide) (by decide) rfl (by decide) ?_
          refine r_aload_n hC dX8_queueOf_79 rfl ?_
          refine gf_X8_105 hC dX8_queueOf_80 ?_
          refine r_iload_n hC dX8_queueOf_83 rfl ?_
          refine r_iaload hC rfl (by decide) hw.1 dX8_queueOf_84 ?_
          replace hw := hw.2
          exact r_ireturn hC hM ⟨_, rfl, hw⟩ (by rw [hR]; decide) (by rw [hR]; decide) dX8_queueOf_85
        · replace hw := hw.2.2.1 h
          refine r_tabIn (tgt := 86) hC 9 h dX8_queueOf_39 (by decide) (by decide) rfl (by decide) ?_
          refine r_aload_n hC dX8_queueOf_86 rfl ?_
          refine gf_X8_108 hC dX8_queueOf_87 ?_
          refine r_iload_n hC dX8_queueOf_90 rfl ?_
          refine r_iaload hC rfl (by decide) hw.1 dX8_queueOf_91 ?_
          replace hw := hw.2
          exact r_ireturn hC hM ⟨_, rfl, hw⟩ (by rw [hR]; decide) (by rw [hR]; decide) dX8_queueOf_92
        · replace hw := hw.2.2.2.1 h
          refine r_tabIn (tgt := 93) hC 10 h dX8_queueOf_39 (by decide) (by decide) rfl (by decide) ?_
          refine r_aload_n hC dX8_queueOf_93 rfl ?_
          refine r_iconst hC dX8_queueOf_94 ?_
          refine r_iload_n hC dX8_queueOf_95 rfl ?_
          refine cl_X8_265 hC (c_X8_waiting (kL K) hw) (by rw [hR]; decide) (Nat.le_of_ble_eq_true rfl) dX8_queueOf_96 (fun r103 s103 hq => ?_)
          clear hw
          have hw := hq
          clear hq
          exact r_ireturn hC hM ⟨_, rfl, hw⟩ (by rw [hR]; decide) (by rw [hR]; decide) dX8_queueOf_99
        · replace hw := hw.2.2.2.2.1 h
          refine r_tabIn (tgt := 100) hC 11 h dX8_queueOf_39 (by decide) (by decide) rfl (by decide) ?_
          refine r_aload_n hC dX8_queueOf_100 rfl ?_
          refine r_iconst hC dX8_queueOf_101 ?_
          refine r_iload_n hC dX8_queueOf_102 rfl ?_
          refine cl_X8_265 hC (c_X8_waiting (kL K) hw) (by rw [hR]; decide) (Nat.le_of_ble_eq_true rfl) dX8_queueOf_103 (fun r104 s104 hq => ?_)
          clear hw
          have hw := hq
          clear hq
          exact r_ireturn hC hM ⟨_, rfl, hw⟩ (by rw [hR]; decide) (by rw [hR]; decide) dX8_queueOf_106
        · replace hw := hw.2.2.2.2.2 h
          refine r_tabOut (tgt := 107) hC h dX8_queueOf_39 (by decide) ?_
          refine r_aload_n hC dX8_queueOf_107 rfl ?_
          refine r_iload_n hC dX8_queueOf_108 rfl ?_
          refine r_iload_n hC dX8_queueOf_109 rfl ?_
          refine cl_X8_268 hC (c_X8_thing (kL K) hw) (by rw [hR]; decide) (Nat.le_of_ble_eq_true rfl) dX8_queueOf_110 (fun r105 s105 hq => ?_)
          clear hw
          have hw := hq
          clear hq
          exact r_ireturn hC hM ⟨_, rfl, hw⟩ (by rw [hR]; decide) (by rw [hR]; decide) dX8_queueOf_113
      · replace hw := hw.2 h
        refine r_iconst hC dX8_queueOf_36 ?_
        exact r_ireturn hC hM ⟨_, rfl, hw⟩ (by rw [hR]; decide) (by rw [hR]; decide) dX8_queueOf_37
  · replace hw := hw.2 h
    refine r_bipush hC dX8_queueOf_12 (by decide) ?_
    exact r_ireturn hC hM ⟨_, rfl, hw⟩ (by rw [hR]; decide) (by rw [hR]; decide) dX8_queueOf_14
def wp_X8_message (x1 : Int) (x2 : Int) (x3 : Int) (σ : St) (po : Int → St → Prop) : Prop := wp_X8_in (nm x1) 0 11 σ (fun r101 s101 => (nm r101 = 0 → po (-1) s101) ∧
 (nm r101 ≠ 0 → (0 ≤ nm x1 ∧ nm x1 < 24) ∧ (nm (gI s101 110 24 (nm x1).toNat) = 0 → po (-1) s101) ∧
 (nm (gI s101 110 24 (nm x1).toNat) ≠ 0 → (0 ≤ nm x1 ∧ nm x1 < 12) ∧ wp_X8_in (nm x2) 0 (nm ((gI s101 110 34 (nm x1).toNat) - 1)) s101 (fun r102 s102 => (nm r102 ≠ 0 → (nm x3 ≠ 0 → (nm x3 ≠ nm 1 → (0 ≤ nm ((40 * x1) + x2) ∧ nm ((40 * x1) + x2) < 480) ∧ wp_X8_in (nm x3) 2 (nm ((gI s102 110 36 (nm ((40 * x1) + x2)).toNat) + 1)) s102 (fun r103 s103 => (nm r103 = 0 → po (-1) s103) ∧
 (nm r103 ≠ 0 → (0 ≤ nm (((64 * ((40 * x1) + x2)) + x3) - 2) ∧ nm (((64 * ((40 * x1) + x2)) + x3) - 2) < 30720) ∧ po (nm (gI s103 110 37 (nm (((64 * ((40 * x1) + x2)) + x3) - 2)).toNat)) s103))) ∧
 (nm x3 = nm 1 → (0 ≤ nm ((40 * x1) + x2) ∧ nm ((40 * x1) + x2) < 480) ∧ po (nm (gI s102 110 36 (nm ((40 * x1) + x2)).toNat)) s102)) ∧
 (nm x3 = 0 → (0 ≤ nm ((40 * x1) + x2) ∧ nm ((40 * x1) + x2) < 480) ∧ po (gL s102 110 35 (nm ((40 * x1) + x2)).toNat) s102)) ∧
 (nm r102 = 0 → po (-1) s102)))))
set_option maxRecDepth 100000 in
set_option maxHeartbeats 4000000 in
theorem c_X8_message (l : Launch) {x1 : Int} {x2 : Int} {x3 : Int} {σ : St} {po : Int → St → Prop} (hw : wp_X8_message x1 x2 x3 σ po) : MT l yX8_message cX8_message 5 (some .long) ({ frames := 1, cells := 0, slots := 0, locals := 25 } : Room) [wr 30 (some 0), wi x1, wi x2, wi x3] σ (PL po) := by
  refine MT_of (by decide) (Nat.le_of_ble_eq_true rfl) (fun K hL hR hC hM => ?_)
  subst hL
  unfold wp_X8_message at hw
  show J K 0 [some (wr 30 (some 0)), some (wi x1), some (wi x2), some (wi x3), none] [] σ 0 0
  refine r_iload_n hC dX8_message_0 rfl ?_
  refine r_i2l hC dX8_message_1 ?_
  refine r_lconst hC 0 rfl dX8_message_2 ?_
  refine r_ldc2 hC 11 (wg 1105 (by decide +kernel) (by decide +kernel)) rfl dX8_message_3 ?_
  refine cl_X8_142 hC (c_X8_in (kL K) hw) (by rw [hR]; decide) (Nat.le_of_ble_eq_true rfl) dX8_message_6 (fun r101 s101 hq => ?_)
  clear hw
  have hw := hq
  clear hq
  refine r_if_eq (tgt := 39) hC dX8_message_9 (by decide) (fun h => ?_) (fun h => ?_)
  · replace hw := hw.1 h
    refine r_ldc2 hC (-1) (wg 1118 (by decide +kernel) (by decide +kernel)) rfl dX8_message_39 ?_
    exact r_lreturn hC hM ⟨_, rfl, hw⟩ (by rw [hR]; decide) (by rw [hR]; decide) dX8_message_42
  · replace hw := hw.2 h
    refine r_aload_n hC dX8_message_12 rfl ?_
    refine gf_X8_78 hC dX8_message_13 ?_
    refine r_iload_n hC dX8_message_16 rfl ?_
    refine r_zaload hC rfl (by decide) hw.1 dX8_message_17 ?_
    replace hw := hw.2
    refine r_if_eq (tgt := 39) hC dX8_message_18 (by decide) (fun h => ?_) (fun h => ?_)
    · replace hw := hw.1 h
      refine r_ldc2 hC (-1) (wg 1118 (by decide +kernel) (by decide +kernel)) rfl dX8_message_39 ?_
      exact r_lreturn hC hM ⟨_, rfl, hw⟩ (by rw [hR]; decide) (by rw [hR]; decide) dX8_message_42
    · replace hw := hw.2 h
      refine r_iload_n hC dX8_message_21 rfl ?_
      refine r_i2l hC dX8_message_22 ?_
      refine r_lconst hC 0 rfl dX8_message_23 ?_
      refine r_aload_n hC dX8_message_24 rfl ?_
      refine gf_X8_108 hC dX8_message_25 ?_
      refine r_iload_n hC dX8_message_28 rfl ?_
      refine r_iaload hC rfl (by decide) hw.1 dX8_message_29 ?_
      replace hw := hw.2
      refine r_iconst hC dX8_message_30 ?_
      refine r_isub hC dX8_message_31 ?_
      refine r_i2l hC dX8_message_32 ?_
      refine cl_X8_142 hC (c_X8_in (kL K) hw) (by rw [hR]; decide) (Nat.le_of_ble_eq_true rfl) dX8_message_33 (fun r102 s102 hq => ?_)
      clear hw
      have hw := hq
      clear hq
      refine r_if_ne (tgt := 43) hC dX8_message_36 (by decide) (fun h => ?_) (fun h => ?_)
      · replace hw := hw.1 h
        refine r_bipush hC dX8_message_43 (by decide) ?_
        refine r_iload_n hC dX8_message_45 rfl ?_
        refine r_imul hC dX8_message_46 ?_
        refine r_iload_n hC dX8_message_47 rfl ?_
        refine r_iadd hC dX8_message_48 ?_
        refine r_istore (l' := [_, _, _, _, _]) hC dX8_message_49 rfl (by decide) rfl ?_
        refine r_iload_n hC dX8_message_51 rfl ?_
        refine r_if_ne (tgt := 63) hC dX8_message_52 (by decide) (fun h => ?_) (fun h => ?_)
        · replace hw := hw.1 h
          refine r_iload_n hC dX8_message_63 rfl ?_
          refine r_iconst hC dX8_message_64 ?_
          refine r_icmp_ne (tgt := 77) hC dX8_message_65 (by decide) (fun h => ?_) (fun h => ?_)
          · replace hw := hw.1 h
            refine r_iload_n hC dX8_message_77 rfl ?_
            refine r_i2l hC dX8_message_78 ?_
            refine r_ldc2 hC 2 (wg 1119 (by decide +kernel) (by decide +kernel)) rfl dX8_message_79 ?_
            refine r_aload_n hC dX8_message_82 rfl ?_
            refine gf_X8_114 hC dX8_message_83 ?_
            refine r_iload hC dX8_message_86 rfl ?_
            refine r_iaload hC rfl (by decide) hw.1 dX8_message_88 ?_
            replace hw := hw.2
            refine r_iconst hC dX8_message_89 ?_
            refine r_iadd hC dX8_message_90 ?_
            refine r_i2l hC dX8_message_91 ?_
            refine cl_X8_142 hC (c_X8_in (kL K) hw) (by rw [hR]; decide) (Nat.le_of_ble_eq_true rfl) dX8_message_92 (fun r103 s103 hq => ?_)
            clear hw
            have hw := hq
            clear hq
            refine r_if_eq (tgt := 116) hC dX8_message_95 (by decide) (fun h => ?_) (fun h => ?_)
            · replace hw := hw.1 h
              refine r_ldc2 hC (-1) (wg 1118 (by decide +kernel) (by decide +kernel)) rfl dX8_message_116 ?_
              exact r_lreturn hC hM ⟨_, rfl, hw⟩ (by rw [hR]; decide) (by rw [hR]; decide) dX8_message_119
            · replace hw := hw.2 h
              refine r_aload_n hC dX8_message_98 rfl ?_
              refine gf_X8_117 hC dX8_message_99 ?_
              refine r_bipush hC dX8_message_102 (by decide) ?_
              refine r_iload hC dX8_message_104 rfl ?_
              refine r_imul hC dX8_message_106 ?_
              refine r_iload_n hC dX8_message_107 rfl ?_
              refine r_iadd hC dX8_message_108 ?_
              refine r_iconst hC dX8_message_109 ?_
              refine r_isub hC dX8_message_110 ?_
              refine r_iaload hC rfl (by decide) hw.1 dX8_message_111 ?_
              replace hw := hw.2
              refine r_i2l hC dX8_message_112 ?_
              refine r_goto (tgt := 119) hC dX8_message_113 (by decide) ?_
              exact r_lreturn hC hM ⟨_, rfl, hw⟩ (by rw [hR]; decide) (by rw [hR]; decide) dX8_message_119
          · replace hw := hw.2 h
            refine r_aload_n hC dX8_message_68 rfl ?_
            refine gf_X8_114 hC dX8_message_69 ?_
            refine r_iload hC dX8_message_72 rfl ?_
            refine r_iaload hC rfl (by decide) hw.1 dX8_message_74 ?_
            replace hw := hw.2
            refine r_i2l hC dX8_message_75 ?_
            exact r_lreturn hC hM ⟨_, rfl, hw⟩ (by rw [hR]; decide) (by rw [hR]; decide) dX8_message_76
        · replace hw := hw.2 h
          refine r_aload_n hC dX8_message_55 rfl ?_
          refine gf_X8_111 hC dX8_message_56 ?_
          refine r_iload hC dX8_message_59 rfl ?_
          refine r_laload hC rfl (by decide) hw.1 dX8_message_61 ?_
          replace hw := hw.2
          exact r_lreturn hC hM ⟨_, rfl, hw⟩ (by rw [hR]; decide) (by rw [hR]; decide) dX8_message_62
      · replace hw := hw.2 h
        refine r_ldc2 hC (-1) (wg 1118 (by decide +kernel) (by decide +kernel)) rfl dX8_message_39 ?_
        exact r_lreturn hC hM ⟨_, rfl, hw⟩ (by rw [hR]; decide) (by rw [hR]; decide) dX8_message_42
def wp_X8_setOf (x1 : Int) (x2 : Int) (σ : St) (po : Int → St → Prop) : Prop := wp_X8_in (nm x2) 0 8 σ (fun r101 s101 => (nm r101 ≠ 0 → wp_X8_in (nm x1) 0 11 s101 (fun r102 s102 => (nm r102 = 0 → po (-1) s102) ∧
 (nm r102 ≠ 0 → (0 ≤ nm (12 + x1) ∧ nm (12 + x1) < 24) ∧ (nm (gI s102 110 24 (nm (12 + x1)).toNat) ≠ 0 → (nm x2 ≠ nm 7 → (nm x2 ≠ nm 8 → wp_X8_thing (12 + x1) x2 s102 (fun r103 s103 => po r103 s103)) ∧
 (nm x2 = nm 8 → wp_X8_waiting 3 x1 s102 (fun r104 s104 => po r104 s104))) ∧
 (nm x2 = nm 7 → (0 ≤ nm x1 ∧ nm x1 < 12) ∧ po (gI s102 110 38 (nm x1).toNat) s102)) ∧
 (nm (gI s102 110 24 (nm (12 + x1)).toNat) = 0 → po (-1) s102)))) ∧
 (nm r101 = 0 → po (-4) s101))
set_option maxRecDepth 100000 in
set_option maxHeartbeats 4000000 in
theorem c_X8_setOf (l : Launch) {x1 : Int} {x2 : Int} {σ : St} {po : Int → St → Prop} (hw : wp_X8_setOf x1 x2 σ po) : MT l yX8_setOf cX8_setOf 3 (some .int) ({ frames := 2, cells := 0, slots := 0, locals := 43 } : Room) [wr 30 (some 0), wi x1, wi x2] σ (PI po) := by
  refine MT_of (by decide) (Nat.le_of_ble_eq_true rfl) (fun K hL hR hC hM => ?_)
  subst hL
  unfold wp_X8_setOf at hw
  show J K 0 [some (wr 30 (some 0)), some (wi x1), some (wi x2)] [] σ 0 0
  refine r_iload_n hC dX8_setOf_0 rfl ?_
  refine r_i2l hC dX8_setOf_1 ?_
  refine r_lconst hC 0 rfl dX8_setOf_2 ?_
  refine r_ldc2 hC 8 (wg 1024 (by decide +kernel) (by decide +kernel)) rfl dX8_setOf_3 ?_
  refine cl_X8_142 hC (c_X8_in (kL K) hw) (by rw [hR]; decide) (Nat.le_of_ble_eq_true rfl) dX8_setOf_6 (fun r101 s101 hq => ?_)
  clear hw
  have hw := hq
  clear hq
  refine r_if_ne (tgt := 15) hC dX8_setOf_9 (by decide) (fun h => ?_) (fun h => ?_)
  · replace hw := hw.1 h
    refine r_iload_n hC dX8_setOf_15 rfl ?_
    refine r_i2l hC dX8_setOf_16 ?_
    refine r_lconst hC 0 rfl dX8_setOf_17 ?_
    refine r_ldc2 hC 11 (wg 1105 (by decide +kernel) (by decide +kernel)) rfl dX8_setOf_18 ?_
    refine cl_X8_142 hC (c_X8_in (kL K) hw) (by rw [hR]; decide) (Nat.le_of_ble_eq_true rfl) dX8_setOf_21 (fun r102 s102 hq => ?_)
    clear hw
    have hw := hq
    clear hq
    refine r_if_eq (tgt := 39) hC dX8_setOf_24 (by decide) (fun h => ?_) (fun h => ?_)
    · replace hw := hw.1 h
      refine r_iconst hC dX8_setOf_39 ?_
      exact r_ireturn hC hM ⟨_, rfl, hw⟩ (by rw [hR]; decide) (by rw [hR]; decide) dX8_setOf_40
    · replace hw := hw.2 h
      refine r_aload_n hC dX8_setOf_27 rfl ?_
      refine gf_X8_78 hC dX8_setOf_28 ?_
      refine r_bipush hC dX8_setOf_31 (by decide) ?_
      refine r_iload_n hC dX8_setOf_33 rfl ?_
      refine r_iadd hC dX8_setOf_34 ?_
      refine r_zaload hC rfl (by decide) hw.1 dX8_setOf_35 ?_
      replace hw := hw.2
      refine r_if_ne (tgt := 41) hC dX8_setOf_36 (by decide) (fun h => ?_) (fun h => ?_)
      · replace hw := hw.1 h
        refine r_iload_n hC dX8_setOf_41 rfl ?_
        refine r_bipush hC dX8_setOf_42 (by decide) ?_
        refine r_icmp_ne (tgt := 56) hC dX8_setOf_44 (by decide) (fun h => ?_) (fun h => ?_)
        · replace hw := hw.1 h
          refine r_iload_n hC dX8_setOf_56 rfl ?_
          refine r_bipush hC dX8_setOf_57 (by decide) ?_
          refine r_icmp_ne (tgt := 71) hC dX8_setOf_59 (by decide) (fun h => ?_) (fun h => ?_)
          · replace hw := hw.1 h
            refine r_aload_n hC dX8_setOf_71 rfl ?_
            refine r_bipush hC dX8_setOf_72 (by decide) ?_
            refine r_iload_n hC dX8_setOf_74 rfl ?_
            refine r_iadd hC dX8_setOf_75 ?_
            refine r_iload_n hC dX8_setOf_76 rfl ?_
            refine cl_X8_268 hC (c_X8_thing (kL K) hw) (by rw [hR]; decide) (Nat.le_of_ble_eq_true rfl) dX8_setOf_77 (fun r103 s103 hq => ?_)
            clear hw
            have hw := hq
            clear hq
            exact r_ireturn hC hM ⟨_, rfl, hw⟩ (by rw [hR]; decide) (by rw [hR]; decide) dX8_setOf_80
          · replace hw := hw.2 h
            refine r_aload_n hC dX8_setOf_62 rfl ?_
            refine r_iconst hC dX8_setOf_63 ?_
            refine r_iload_n hC dX8_setOf_64 rfl ?_
            refine cl_X8_265 hC (c_X8_waiting (kL K) hw) (by rw [hR]; decide) (Nat.le_of_ble_eq_true rfl) dX8_setOf_65 (fun r104 s104 hq => ?_)
            clear hw
            have hw := hq
            clear hq
            refine r_goto (tgt := 80) hC dX8_setOf_68 (by decide) ?_
            exact r_ireturn hC hM ⟨_, rfl, hw⟩ (by rw [hR]; decide) (by rw [hR]; decide) dX8_setOf_80
        · replace hw := hw.2 h
          refine r_aload_n hC dX8_setOf_47 rfl ?_
          refine gf_X8_120 hC dX8_setOf_48 ?_
          refine r_iload_n hC dX8_setOf_51 rfl ?_
          refine r_iaload hC rfl (by decide) hw.1 dX8_setOf_52 ?_
          replace hw := hw.2
          refine r_goto (tgt := 80) hC dX8_setOf_53 (by decide) ?_
          exact r_ireturn hC hM ⟨_, rfl, hw⟩ (by rw [hR]; decide) (by rw [hR]; decide) dX8_setOf_80
      · replace hw := hw.2 h
        refine r_iconst hC dX8_setOf_39 ?_
        exact r_ireturn hC hM ⟨_, rfl, hw⟩ (by rw [hR]; decide) (by rw [hR]; decide) dX8_setOf_40
  · replace hw := hw.2 h
    refine r_bipush hC dX8_setOf_12 (by decide) ?_
    exact r_ireturn hC hM ⟨_, rfl, hw⟩ (by rw [hR]; decide) (by rw [hR]; decide) dX8_setOf_14
def wp_X8_counter_174 (po : Int → St → Prop) (X100 : Int → Int → Int → Int → Int → St → Prop) (x1 : Int) (x2 : Int) (x3 : Int) (x5 : Int) (y0 : Int) (y1 : Int) (σ : St) : Prop := (nm x3 ≠ nm 3 → (nm y0 ≠ nm 0 → X100 x1 x2 x3 (y1 + 0) (x5 + 1) σ) ∧
 (nm y0 = nm 0 → X100 x1 x2 x3 (y1 + 1) (x5 + 1) σ)) ∧
 (nm x3 = nm 3 → (nm y0 ≠ nm 1 → X100 x1 x2 x3 (y1 + 0) (x5 + 1) σ) ∧
 (nm y0 = nm 1 → X100 x1 x2 x3 (y1 + 1) (x5 + 1) σ))
set_option maxRecDepth 100000 in
set_option maxHeartbeats 4000000 in
theorem j_X8_counter_174 {K : JK} (hR : kRm K = ({ frames := 1, cells := 0, slots := 0, locals := 25 } : Room)) (hC : Cx K cX8_counter 7 RX8) {po : Int → St → Prop} (hM : Mx K (some .int) (PI po)) {X100 : Int → Int → Int → Int → Int → St → Prop} (hX100 : ∀ (x1 : Int) (x2 : Int) (x3 : Int) (x4 : Int) (x5 : Int) (σ : St), X100 x1 x2 x3 x4 x5 σ → J K 100 [some (wr 30 (some 0)), some (wi x1), some (wi x2), some (wi x3), some (wi x4), some (wi x5), none] [] σ 0 0) : ∀ (x1 : Int) (x2 : Int) (x3 : Int) (x5 : Int) (y0 : Int) (y1 : Int) (σ : St), wp_X8_counter_174 po X100 x1 x2 x3 x5 y0 y1 σ → J K 174 [some (wr 30 (some 0)), some (wi x1), some (wi x2), some (wi x3), none, some (wi x5), none] [wi y0, wi y1] σ 0 0 := by
  intro x1 x2 x3 x5 y0 y1 σ hw
  unfold wp_X8_counter_174 at hw
  refine r_iload_n hC dX8_counter_174 rfl ?_
  refine r_iconst hC dX8_counter_175 ?_
  refine r_icmp_ne (tgt := 183) hC dX8_counter_176 (by decide) (fun h => ?_) (fun h => ?_)
  · replace hw := hw.1 h
    refine r_iconst hC dX8_counter_183 ?_
    refine r_icmp_ne (tgt := 191) hC dX8_counter_184 (by decide) (fun h => ?_) (fun h => ?_)
    · replace hw := hw.1 h
      refine r_iconst hC dX8_counter_191 ?_
      refine r_iadd hC dX8_counter_192 ?_
      refine r_istore (l' := [_, _, _, _, _, _, _]) hC dX8_counter_193 rfl (by decide) rfl ?_
      refine r_iinc (l' := [_, _, _, _, _, _, _]) hC dX8_counter_195 rfl rfl (by decide) rfl ?_
      refine r_goto (tgt := 100) hC dX8_counter_198 (by decide) ?_
      exact J.drop2 (hX100 x1 x2 x3 (y1 + 0) (x5 + 1) σ hw) ⟨rfl, rfl, rfl, rfl, rfl, rfl, trivial⟩
    · replace hw := hw.2 h
      refine r_iconst hC dX8_counter_187 ?_
      refine r_goto (tgt := 192) hC dX8_counter_188 (by decide) ?_
      refine r_iadd hC dX8_counter_192 ?_
      refine r_istore (l' := [_, _, _, _, _, _, _]) hC dX8_counter_193 rfl (by decide) rfl ?_
      refine r_iinc (l' := [_, _, _, _, _, _, _]) hC dX8_counter_195 rfl rfl (by decide) rfl ?_
      refine r_goto (tgt := 100) hC dX8_counter_198 (by decide) ?_
      exact J.drop2 (hX100 x1 x2 x3 (y1 + 1) (x5 + 1) σ hw) ⟨rfl, rfl, rfl, rfl, rfl, rfl, trivial⟩
  · replace hw := hw.2 h
    refine r_iconst hC dX8_counter_179 ?_
    refine r_goto (tgt := 184) hC dX8_counter_180 (by decide) ?_
    refine r_icmp_ne (tgt := 191) hC dX8_counter_184 (by decide) (fun h => ?_) (fun h => ?_)
    · replace hw := hw.1 h
      refine r_iconst hC dX8_counter_191 ?_
      refine r_iadd hC dX8_counter_192 ?_
      refine r_istore (l' := [_, _, _, _, _, _, _]) hC dX8_counter_193 rfl (by decide) rfl ?_
      refine r_iinc (l' := [_, _, _, _, _, _, _]) hC dX8_counter_195 rfl rfl (by decide) rfl ?_
      refine r_goto (tgt := 100) hC dX8_counter_198 (by decide) ?_
      exact J.drop2 (hX100 x1 x2 x3 (y1 + 0) (x5 + 1) σ hw) ⟨rfl, rfl, rfl, rfl, rfl, rfl, trivial⟩
    · replace hw := hw.2 h
      refine r_iconst hC dX8_counter_187 ?_
      refine r_goto (tgt := 192) hC dX8_counter_188 (by decide) ?_
      refine r_iadd hC dX8_counter_192 ?_
      refine r_istore (l' := [_, _, _, _, _, _, _]) hC dX8_counter_193 rfl (by decide) rfl ?_
      refine r_iinc (l' := [_, _, _, _, _, _, _]) hC dX8_counter_195 rfl rfl (by decide) rfl ?_
      refine r_goto (tgt := 100) hC dX8_counter_198 (by decide) ?_
      exact J.drop2 (hX100 x1 x2 x3 (y1 + 1) (x5 + 1) σ hw) ⟨rfl, rfl, rfl, rfl, rfl, rfl, trivial⟩
def wp_X8_counter_100 (po : Int → St → Prop) : Nat → Int → Int → Int → Int → Int → St → Prop
  | 0, _, _, _, _, _, _ => False
  | n + 1, x1, x2, x3, x4, x5, σ => (nm (gI σ 100 0 0) ≤ nm x5 → po x4 σ) ∧
 (nm x5 < nm (gI σ 100 0 0) → (0 ≤ nm x5 ∧ nm x5 < 16) ∧ (nm (gI σ 110 7 (nm x5).toNat) ≠ nm 3 → wp_X8_counter_100 po n x1 x2 x3 x4 (x5 + 1) σ) ∧
 (nm (gI σ 110 7 (nm x5).toNat) = nm 3 → (0 ≤ nm x5 ∧ nm x5 < 16) ∧ (nm (gI σ 110 9 (nm x5).toNat) ≠ nm x1 → wp_X8_counter_100 po n x1 x2 x3 x4 (x5 + 1) σ) ∧
 (nm (gI σ 110 9 (nm x5).toNat) = nm x1 → (0 ≤ nm x5 ∧ nm x5 < 16) ∧ (0 ≤ nm ((8 * x5) + (gI σ 110 14 (nm x5).toNat)) ∧ nm ((8 * x5) + (gI σ 110 14 (nm x5).toNat)) < 128) ∧ (nm (gI σ 110 21 (nm ((8 * x5) + (gI σ 110 14 (nm x5).toNat))).toNat) ≠ nm x2 → wp_X8_counter_100 po n x1 x2 x3 (x4 + 0) (x5 + 1) σ) ∧
 (nm (gI σ 110 21 (nm ((8 * x5) + (gI σ 110 14 (nm x5).toNat))).toNat) = nm x2 → (0 ≤ nm ((8 * x5) + (gI σ 110 14 (nm x5).toNat)) ∧ nm ((8 * x5) + (gI σ 110 14 (nm x5).toNat)) < 128) ∧ (nm (gI σ 110 22 (nm ((8 * x5) + (gI σ 110 14 (nm x5).toNat))).toNat) ≠ 0 → wp_X8_counter_174 po (fun x1 x2 x3 x4 x5 s9 => wp_X8_counter_100 po n x1 x2 x3 x4 x5 s9) x1 x2 x3 x5 0 x4 σ) ∧
 (nm (gI σ 110 22 (nm ((8 * x5) + (gI σ 110 14 (nm x5).toNat))).toNat) = 0 → wp_X8_counter_174 po (fun x1 x2 x3 x4 x5 s9 => wp_X8_counter_100 po n x1 x2 x3 x4 x5 s9) x1 x2 x3 x5 1 x4 σ)))))
set_option maxRecDepth 100000 in
set_option maxHeartbeats 4000000 in
theorem j_X8_counter_100 {K : JK} (hR : kRm K = ({ frames := 1, cells := 0, slots := 0, locals := 25 } : Room)) (hC : Cx K cX8_counter 7 RX8) {po : Int → St → Prop} (hM : Mx K (some .int) (PI po)) : ∀ (n : Nat) (x1 : Int) (x2 : Int) (x3 : Int) (x4 : Int) (x5 : Int) (σ : St), wp_X8_counter_100 po n x1 x2 x3 x4 x5 σ → J K 100 [some (wr 30 (some 0)), some (wi x1), some (wi x2), some (wi x3), some (wi x4), some (wi x5), none] [] σ 0 0 := by
  intro n
  induction n with
  | zero =>
    intro x1 x2 x3 x4 x5 σ hw
    exact False.elim hw
  | succ n ih =>
    intro x1 x2 x3 x4 x5 σ hw
    unfold wp_X8_counter_100 at hw
    refine r_iload hC dX8_counter_100 rfl ?_
    refine r_aload_n hC dX8_counter_102 rfl ?_
    refine gf_X8_138 hC dX8_counter_103 ?_
    refine r_icmp_ge (tgt := 201) hC dX8_counter_106 (by decide) (fun h => ?_) (fun h => ?_)
    · replace hw := hw.1 h
      refine r_iload hC dX8_counter_201 rfl ?_
      exact r_ireturn hC hM ⟨_, rfl, hw⟩ (by rw [hR]; decide) (by rw [hR]; decide) dX8_counter_203
    · replace hw := hw.2 h
      refine r_aload_n hC dX8_counter_109 rfl ?_
      refine gf_X8_30 hC dX8_counter_110 ?_
      refine r_iload hC dX8_counter_113 rfl ?_
      refine r_iaload hC rfl (by decide) hw.1 dX8_counter_115 ?_
      replace hw := hw.2
      refine r_iconst hC dX8_counter_116 ?_
      refine r_icmp_ne (tgt := 195) hC dX8_counter_117 (by decide) (fun h => ?_) (fun h => ?_)
      · replace hw := hw.1 h
        refine r_iinc (l' := [_, _, _, _, _, _, _]) hC dX8_counter_195 rfl rfl (by decide) rfl ?_
        refine r_goto (tgt := 100) hC dX8_counter_198 (by decide) ?_
        exact J.drop2 (ih x1 x2 x3 x4 (x5 + 1) σ hw) ⟨rfl, rfl, rfl, rfl, rfl, rfl, trivial⟩
      · replace hw := hw.2 h
        refine r_aload_n hC dX8_counter_120 rfl ?_
        refine gf_X8_36 hC dX8_counter_121 ?_
        refine r_iload hC dX8_counter_124 rfl ?_
        refine r_iaload hC rfl (by decide) hw.1 dX8_counter_126 ?_
        replace hw := hw.2
        refine r_iload_n hC dX8_counter_127 rfl ?_
        refine r_icmp_ne (tgt := 195) hC dX8_counter_128 (by decide) (fun h => ?_) (fun h => ?_)
        · replace hw := hw.1 h
          refine r_iinc (l' := [_, _, _, _, _, _, _]) hC dX8_counter_195 rfl rfl (by decide) rfl ?_
          refine r_goto (tgt := 100) hC dX8_counter_198 (by decide) ?_
          exact J.drop2 (ih x1 x2 x3 x4 (x5 + 1) σ hw) ⟨rfl, rfl, rfl, rfl, rfl, rfl, trivial⟩
        · replace hw := hw.2 h
          refine r_bipush hC dX8_counter_131 (by decide) ?_
          refine r_iload hC dX8_counter_133 rfl ?_
          refine r_imul hC dX8_counter_135 ?_
          refine r_aload_n hC dX8_counter_136 rfl ?_
          refine gf_X8_51 hC dX8_counter_137 ?_
          refine r_iload hC dX8_counter_140 rfl ?_
          refine r_iaload hC rfl (by decide) hw.1 dX8_counter_142 ?_
          replace hw := hw.2
          refine r_iadd hC dX8_counter_143 ?_
          refine r_istore (l' := [_, _, _, _, _, _, _]) hC dX8_counter_144 rfl (by decide) rfl ?_
          refine r_iload hC dX8_counter_146 rfl ?_
          refine r_aload_n hC dX8_counter_148 rfl ?_
          refine gf_X8_69 hC dX8_counter_149 ?_
          refine r_iload hC dX8_counter_152 rfl ?_
          refine r_iaload hC rfl (by decide) hw.1 dX8_counter_154 ?_
          replace hw := hw.2
          refine r_iload_n hC dX8_counter_155 rfl ?_
          refine r_icmp_ne (tgt := 191) hC dX8_counter_156 (by decide) (fun h => ?_) (fun h => ?_)
          · replace hw := hw.1 h
            refine r_iconst hC dX8_counter_191 ?_
            refine r_iadd hC dX8_counter_192 ?_
            refine r_istore (l' := [_, _, _, _, _, _, _]) hC dX8_counter_193 rfl (by decide) rfl ?_
            refine r_iinc (l' := [_, _, _, _, _, _, _]) hC dX8_counter_195 rfl rfl (by decide) rfl ?_
            refine r_goto (tgt := 100) hC dX8_counter_198 (by decide) ?_
            exact J.drop2 (ih x1 x2 x3 (x4 + 0) (x5 + 1) σ hw) ⟨rfl, rfl, rfl, rfl, rfl, rfl, trivial⟩
          · replace hw := hw.2 h
            refine r_aload_n hC dX8_counter_159 rfl ?_
            refine gf_X8_72 hC dX8_counter_160 ?_
            refine r_iload hC dX8_counter_163 rfl ?_
            refine r_iaload hC rfl (by decide) hw.1 dX8_counter_165 ?_
            replace hw := hw.2
            refine r_if_ne (tgt := 173) hC dX8_counter_166 (by decide) (fun h => ?_) (fun h => ?_)
            · replace hw := hw.1 h
              refine r_iconst hC dX8_counter_173 ?_
              exact J.drop2 (j_X8_counter_174 hR hC hM ih x1 x2 x3 x5 0 x4 σ hw) ⟨rfl, rfl, rfl, rfl, rfl, trivial⟩
            · replace hw := hw.2 h
              refine r_iconst hC dX8_counter_169 ?_
              refine r_goto (tgt := 174) hC dX8_counter_170 (by decide) ?_
              exact J.drop2 (j_X8_counter_174 hR hC hM ih x1 x2 x3 x5 1 x4 σ hw) ⟨rfl, rfl, rfl, rfl, rfl, trivial⟩
def wp_X8_counter (x1 : Int) (x2 : Int) (x3 : Int) (σ : St) (po : Int → St → Prop) : Prop := wp_X8_in (nm x3) 0 3 σ (fun r101 s101 => (nm r101 ≠ 0 → wp_X8_in (nm x1) 0 11 s101 (fun r102 s102 => (nm r102 = 0 → po (-1) s102) ∧
 (nm r102 ≠ 0 → (0 ≤ nm (12 + x1) ∧ nm (12 + x1) < 24) ∧ (nm (gI s102 110 24 (nm (12 + x1)).toNat) = 0 → po (-1) s102) ∧
 (nm (gI s102 110 24 (nm (12 + x1)).toNat) ≠ 0 → (0 ≤ nm x1 ∧ nm x1 < 12) ∧ wp_X8_in (nm x2) 0 (nm ((gI s102 110 38 (nm x1).toNat) - 1)) s102 (fun r103 s103 => (nm r103 ≠ 0 → (nm 2 ≤ nm x3 → ∃ n9, wp_X8_counter_100 po n9 x1 x2 x3 0 0 s103) ∧
 (nm x3 < nm 2 → (nm x3 ≠ 0 → (0 ≤ nm ((8 * x1) + x2) ∧ nm ((8 * x1) + x2) < 96) ∧ po (gI s103 110 40 (nm ((8 * x1) + x2)).toNat) s103) ∧
 (nm x3 = 0 → (0 ≤ nm ((8 * x1) + x2) ∧ nm ((8 * x1) + x2) < 96) ∧ po (gI s103 110 39 (nm ((8 * x1) + x2)).toNat) s103))) ∧
 (nm r103 = 0 → po (-1) s103)))))) ∧
 (nm r101 = 0 → po (-4) s101))
set_option maxRecDepth 100000 in
set_option maxHeartbeats 4000000 in
theorem c_X8_counter (l : Launch) {x1 : Int} {x2 : Int} {x3 : Int} {σ : St} {po : Int → St → Prop} (hw : wp_X8_counter x1 x2 x3 σ po) : MT l yX8_counter cX8_counter 7 (some .int) ({ frames := 1, cells := 0, slots := 0, locals := 25 } : Room) [wr 30 (some 0), wi x1, wi x2, wi x3] σ (PI po) := by
  refine MT_of (by decide) (Nat.le_of_ble_eq_true rfl) (fun K hL hR hC hM => ?_)
  subst hL
  unfold wp_X8_counter at hw
  show J K 0 [some (wr 30 (some 0)), some (wi x1), some (wi x2), some (wi x3), none, none, none] [] σ 0 0
  refine r_iload_n hC dX8_counter_0 rfl ?_
  refine r_i2l hC dX8_counter_1 ?_
  refine r_lconst hC 0 rfl dX8_counter_2 ?_
  refine r_ldc2 hC 3 (wg 1092 (by decide +kernel) (by decide +kernel)) rfl dX8_counter_3 ?_
  refine cl_X8_142 hC (c_X8_in (kL K) hw) (by rw [hR]; decide) (Nat.le_of_ble_eq_true rfl) dX8_counter_6 (fun r101 s101 hq => ?_)
  clear hw
  have hw := hq
  clear hq
  refine r_if_ne (tgt := 15) hC dX8_counter_9 (by decide) (fun h => ?_) (fun h => ?_)
  · replace hw := hw.1 h
    refine r_iload_n hC dX8_counter_15 rfl ?_
    refine r_i2l hC dX8_counter_16 ?_
    refine r_lconst hC 0 rfl dX8_counter_17 ?_
    refine r_ldc2 hC 11 (wg 1105 (by decide +kernel) (by decide +kernel)) rfl dX8_counter_18 ?_
    refine cl_X8_142 hC (c_X8_in (kL K) hw) (by rw [hR]; decide) (Nat.le_of_ble_eq_true rfl) dX8_counter_21 (fun r102 s102 hq => ?_)
    clear hw
    have hw := hq
    clear hq
    refine r_if_eq (tgt := 57) hC dX8_counter_24 (by decide) (fun h => ?_) (fun h => ?_)
    · replace hw := hw.1 h
      refine r_iconst hC dX8_counter_57 ?_
      exact r_ireturn hC hM ⟨_, rfl, hw⟩ (by rw [hR]; decide) (by rw [hR]; decide) dX8_counter_58
    · replace hw := hw.2 h
      refine r_aload_n hC dX8_counter_27 rfl ?_
      refine gf_X8_78 hC dX8_counter_28 ?_
      refine r_bipush hC dX8_counter_31 (by decide) ?_
      refine r_iload_n hC dX8_counter_33 rfl ?_
      refine r_iadd hC dX8_counter_34 ?_
      refine r_zaload hC rfl (by decide) hw.1 dX8_counter_35 ?_
      replace hw := hw.2
      refine r_if_eq (tgt := 57) hC dX8_counter_36 (by decide) (fun h => ?_) (fun h => ?_)
      · replace hw := hw.1 h
        refine r_iconst hC dX8_counter_57 ?_
        exact r_ireturn hC hM ⟨_, rfl, hw⟩ (by rw [hR]; decide) (by rw [hR]; decide) dX8_counter_58
      · replace hw := hw.2 h
        refine r_iload_n hC dX8_counter_39 rfl ?_
        refine r_i2l hC dX8_counter_40 ?_
        refine r_lconst hC 0 rfl dX8_counter_41 ?_
        refine r_aload_n hC dX8_counter_42 rfl ?_
        refine gf_X8_120 hC dX8_counter_43 ?_
        refine r_iload_n hC dX8_counter_46 rfl ?_
        refine r_iaload hC rfl (by decide) hw.1 dX8_counter_47 ?_
        replace hw := hw.2
        refine r_iconst hC dX8_counter_48 ?_
        refine r_isub hC dX8_counter_49 ?_
        refine r_i2l hC dX8_counter_50 ?_
        refine cl_X8_142 hC (c_X8_in (kL K) hw) (by rw [hR]; decide) (Nat.le_of_ble_eq_true rfl) dX8_counter_51 (fun r103 s103 hq => ?_)
        clear hw
        have hw := hq
        clear hq
        refine r_if_ne (tgt := 59) hC dX8_counter_54 (by decide) (fun h => ?_) (fun h => ?_)
        · replace hw := hw.1 h
          refine r_iload_n hC dX8_counter_59 rfl ?_
          refine r_iconst hC dX8_counter_60 ?_
          refine r_icmp_ge (tgt := 94) hC dX8_counter_61 (by decide) (fun h => ?_) (fun h => ?_)
          · replace hw := hw.1 h
            refine r_iconst hC dX8_counter_94 ?_
            refine r_istore (l' := [_, _, _, _, _, _, _]) hC dX8_counter_95 rfl (by decide) rfl ?_
            refine r_iconst hC dX8_counter_97 ?_
            refine r_istore (l' := [_, _, _, _, _, _, _]) hC dX8_counter_98 rfl (by decide) rfl ?_
            obtain ⟨n9, hw⟩ := hw
            exact J.drop2 (j_X8_counter_100 hR hC hM n9 x1 x2 x3 0 0 s103 hw) ⟨rfl, rfl, rfl, rfl, rfl, rfl, trivial⟩
          · replace hw := hw.2 h
            refine r_iload_n hC dX8_counter_64 rfl ?_
            refine r_if_ne (tgt := 82) hC dX8_counter_65 (by decide) (fun h => ?_) (fun h => ?_)
            · replace hw := hw.1 h
              refine r_aload_n hC dX8_counter_82 rfl ?_
              refine gf_X8_126 hC dX8_counter_83 ?_
              refine r_bipush hC dX8_counter_86 (by decide) ?_
              refine r_iload_n hC dX8_counter_88 rfl ?_
              refine r_imul hC dX8_counter_89 ?_
              refine r_iload_n hC dX8_counter_90 rfl ?_
              refine r_iadd hC dX8_counter_91 ?_
              refine r_iaload hC rfl (by decide) hw.1 dX8_counter_92 ?_
              replace hw := hw.2
              exact r_ireturn hC hM ⟨_, rfl, hw⟩ (by rw [hR]; decide) (by rw [hR]; decide) dX8_counter_93
            · replace hw := hw.2 h
              refine r_aload_n hC dX8_counter_68 rfl ?_
              refine gf_X8_123 hC dX8_counter_69 ?_
              refine r_bipush hC dX8_counter_72 (by decide) ?_
              refine r_iload_n hC dX8_counter_74 rfl ?_
              refine r_imul hC dX8_counter_75 ?_
              refine r_iload_n hC dX8_counter_76 rfl ?_
              refine r_iadd hC dX8_counter_77 ?_
              refine r_iaload hC rfl (by decide) hw.1 dX8_counter_78 ?_
              replace hw := hw.2
              refine r_goto (tgt := 93) hC dX8_counter_79 (by decide) ?_
              exact r_ireturn hC hM ⟨_, rfl, hw⟩ (by rw [hR]; decide) (by rw [hR]; decide) dX8_counter_93
        · replace hw := hw.2 h
          refine r_iconst hC dX8_counter_57 ?_
          exact r_ireturn hC hM ⟨_, rfl, hw⟩ (by rw [hR]; decide) (by rw [hR]; decide) dX8_counter_58
  · replace hw := hw.2 h
    refine r_bipush hC dX8_counter_12 (by decide) ?_
    exact r_ireturn hC hM ⟨_, rfl, hw⟩ (by rw [hR]; decide) (by rw [hR]; decide) dX8_counter_14
def wp_X8_undo (x1 : Int) (x2 : Int) (x3 : Int) (σ : St) (po : Int → St → Prop) : Prop := wp_X8_isProcess x1 σ (fun r101 s101 => (nm r101 = 0 → po 0 s101) ∧
 (nm r101 ≠ 0 → wp_X8_in (nm x2) 0 11 s101 (fun r102 s102 => (nm r102 = 0 → po 0 s102) ∧
 (nm r102 ≠ 0 → (0 ≤ nm (12 + x2) ∧ nm (12 + x2) < 24) ∧ (nm (gI s102 110 24 (nm (12 + x2)).toNat) = 0 → po 0 s102) ∧
 (nm (gI s102 110 24 (nm (12 + x2)).toNat) ≠ 0 → (0 ≤ nm x2 ∧ nm x2 < 12) ∧ wp_X8_in (nm x3) 0 (nm ((gI s102 110 38 (nm x2).toNat) - 1)) s102 (fun r103 s103 => (nm r103 ≠ 0 → (0 ≤ nm (((96 * x1) + (8 * x2)) + x3) ∧ nm (((96 * x1) + (8 * x2)) + x3) < 1536) ∧ po (gI s103 110 41 (nm (((96 * x1) + (8 * x2)) + x3)).toNat) s103) ∧
 (nm r103 = 0 → po 0 s103)))))))
set_option maxRecDepth 100000 in
set_option maxHeartbeats 4000000 in
theorem c_X8_undo (l : Launch) {x1 : Int} {x2 : Int} {x3 : Int} {σ : St} {po : Int → St → Prop} (hw : wp_X8_undo x1 x2 x3 σ po) : MT l yX8_undo cX8_undo 4 (some .int) ({ frames := 2, cells := 0, slots := 0, locals := 46 } : Room) [wr 30 (some 0), wi x1, wi x2, wi x3] σ (PI po) := by
  refine MT_of (by decide) (Nat.le_of_ble_eq_true rfl) (fun K hL hR hC hM => ?_)
  subst hL
  unfold wp_X8_undo at hw
  show J K 0 [some (wr 30 (some 0)), some (wi x1), some (wi x2), some (wi x3)] [] σ 0 0
  refine r_aload_n hC dX8_undo_0 rfl ?_
  refine r_iload_n hC dX8_undo_1 rfl ?_
  refine cl_X8_152 hC (c_X8_isProcess (kL K) hw) (by rw [hR]; decide) (Nat.le_of_ble_eq_true rfl) dX8_undo_2 (fun r101 s101 hq => ?_)
  clear hw
  have hw := hq
  clear hq
  refine r_if_eq (tgt := 50) hC dX8_undo_5 (by decide) (fun h => ?_) (fun h => ?_)
  · replace hw := hw.1 h
    refine r_iconst hC dX8_undo_50 ?_
    refine r_goto (tgt := 70) hC dX8_undo_51 (by decide) ?_
    exact r_ireturn hC hM ⟨_, rfl, hw⟩ (by rw [hR]; decide) (by rw [hR]; decide) dX8_undo_70
  · replace hw := hw.2 h
    refine r_iload_n hC dX8_undo_8 rfl ?_
    refine r_i2l hC dX8_undo_9 ?_
    refine r_lconst hC 0 rfl dX8_undo_10 ?_
    refine r_ldc2 hC 11 (wg 1105 (by decide +kernel) (by decide +kernel)) rfl dX8_undo_11 ?_
    refine cl_X8_142 hC (c_X8_in (kL K) hw) (by rw [hR]; decide) (Nat.le_of_ble_eq_true rfl) dX8_undo_14 (fun r102 s102 hq => ?_)
    clear hw
    have hw := hq
    clear hq
    refine r_if_eq (tgt := 50) hC dX8_undo_17 (by decide) (fun h => ?_) (fun h => ?_)
    · replace hw := hw.1 h
      refine r_iconst hC dX8_undo_50 ?_
      refine r_goto (tgt := 70) hC dX8_undo_51 (by decide) ?_
      exact r_ireturn hC hM ⟨_, rfl, hw⟩ (by rw [hR]; decide) (by rw [hR]; decide) dX8_undo_70
    · replace hw := hw.2 h
      refine r_aload_n hC dX8_undo_20 rfl ?_
      refine gf_X8_78 hC dX8_undo_21 ?_
      refine r_bipush hC dX8_undo_24 (by decide) ?_
      refine r_iload_n hC dX8_undo_26 rfl ?_
      refine r_iadd hC dX8_undo_27 ?_
      refine r_zaload hC rfl (by decide) hw.1 dX8_undo_28 ?_
      replace hw := hw.2
      refine r_if_eq (tgt := 50) hC dX8_undo_29 (by decide) (fun h => ?_) (fun h => ?_)
      · replace hw := hw.1 h
        refine r_iconst hC dX8_undo_50 ?_
        refine r_goto (tgt := 70) hC dX8_undo_51 (by decide) ?_
        exact r_ireturn hC hM ⟨_, rfl, hw⟩ (by rw [hR]; decide) (by rw [hR]; decide) dX8_undo_70
      · replace hw := hw.2 h
        refine r_iload_n hC dX8_undo_32 rfl ?_
        refine r_i2l hC dX8_undo_33 ?_
        refine r_lconst hC 0 rfl dX8_undo_34 ?_
        refine r_aload_n hC dX8_undo_35 rfl ?_
        refine gf_X8_120 hC dX8_undo_36 ?_
        refine r_iload_n hC dX8_undo_39 rfl ?_
        refine r_iaload hC rfl (by decide) hw.1 dX8_undo_40 ?_
        replace hw := hw.2
        refine r_iconst hC dX8_undo_41 ?_
        refine r_isub hC dX8_undo_42 ?_
        refine r_i2l hC dX8_undo_43 ?_
        refine cl_X8_142 hC (c_X8_in (kL K) hw) (by rw [hR]; decide) (Nat.le_of_ble_eq_true rfl) dX8_undo_44 (fun r103 s103 hq => ?_)
        clear hw
        have hw := hq
        clear hq
        refine r_if_ne (tgt := 54) hC dX8_undo_47 (by decide) (fun h => ?_) (fun h => ?_)
        · replace hw := hw.1 h
          refine r_aload_n hC dX8_undo_54 rfl ?_
          refine gf_X8_129 hC dX8_undo_55 ?_
          refine r_bipush hC dX8_undo_58 (by decide) ?_
          refine r_iload_n hC dX8_undo_60 rfl ?_
          refine r_imul hC dX8_undo_61 ?_
          refine r_bipush hC dX8_undo_62 (by decide) ?_
          refine r_iload_n hC dX8_undo_64 rfl ?_
          refine r_imul hC dX8_undo_65 ?_
          refine r_iadd hC dX8_undo_66 ?_
          refine r_iload_n hC dX8_undo_67 rfl ?_
          refine r_iadd hC dX8_undo_68 ?_
          refine r_iaload hC rfl (by decide) hw.1 dX8_undo_69 ?_
          replace hw := hw.2
          exact r_ireturn hC hM ⟨_, rfl, hw⟩ (by rw [hR]; decide) (by rw [hR]; decide) dX8_undo_70
        · replace hw := hw.2 h
          refine r_iconst hC dX8_undo_50 ?_
          refine r_goto (tgt := 70) hC dX8_undo_51 (by decide) ?_
          exact r_ireturn hC hM ⟨_, rfl, hw⟩ (by rw [hR]; decide) (by rw [hR]; decide) dX8_undo_70
def wp_X8_count_51 (po : Int → St → Prop) : Nat → Int → Int → St → Prop
  | 0, _, _, _ => False
  | n + 1, x2, x3, σ => (nm (gI σ 100 0 0) ≤ nm x3 → po x2 σ) ∧
 (nm x3 < nm (gI σ 100 0 0) → (0 ≤ nm x3 ∧ nm x3 < 16) ∧ (nm (gI σ 110 3 (nm x3).toNat) = 0 → wp_X8_count_51 po n (x2 + 0) (x3 + 1) σ) ∧
 (nm (gI σ 110 3 (nm x3).toNat) ≠ 0 → wp_X8_count_51 po n (x2 + 1) (x3 + 1) σ))
set_option maxRecDepth 100000 in
set_option maxHeartbeats 4000000 in
theorem j_X8_count_51 {K : JK} (hR : kRm K = ({ frames := 1, cells := 0, slots := 0, locals := 22 } : Room)) (hC : Cx K cX8_count 4 RX8) {po : Int → St → Prop} (hM : Mx K (some .int) (PI po)) : ∀ (n : Nat) (x2 : Int) (x3 : Int) (σ : St), wp_X8_count_51 po n x2 x3 σ → J K 51 [some (wr 30 (some 0)), none, some (wi x2), some (wi x3)] [] σ 0 0 := by
  intro n
  induction n with
  | zero =>
    intro x2 x3 σ hw
    exact False.elim hw
  | succ n ih =>
    intro x2 x3 σ hw
    unfold wp_X8_count_51 at hw
    refine r_iload_n hC dX8_count_51 rfl ?_
    refine r_aload_n hC dX8_count_52 rfl ?_
    refine gf_X8_138 hC dX8_count_53 ?_
    refine r_icmp_ge (tgt := 82) hC dX8_count_56 (by decide) (fun h => ?_) (fun h => ?_)
    · replace hw := hw.1 h
      refine r_iload_n hC dX8_count_82 rfl ?_
      exact r_ireturn hC hM ⟨_, rfl, hw⟩ (by rw [hR]; decide) (by rw [hR]; decide) dX8_count_83
    · replace hw := hw.2 h
      refine r_iload_n hC dX8_count_59 rfl ?_
      refine r_aload_n hC dX8_count_60 rfl ?_
      refine gf_X8_16 hC dX8_count_61 ?_
      refine r_iload_n hC dX8_count_64 rfl ?_
      refine r_zaload hC rfl (by decide) hw.1 dX8_count_65 ?_
      replace hw := hw.2
      refine r_if_eq (tgt := 73) hC dX8_count_66 (by decide) (fun h => ?_) (fun h => ?_)
      · replace hw := hw.1 h
        refine r_iconst hC dX8_count_73 ?_
        refine r_iadd hC dX8_count_74 ?_
        refine r_istore_n (l' := [_, _, _, _]) hC dX8_count_75 rfl (by decide) rfl ?_
        refine r_iinc (l' := [_, _, _, _]) hC dX8_count_76 rfl rfl (by decide) rfl ?_
        refine r_goto (tgt := 51) hC dX8_count_79 (by decide) ?_
        exact J.drop2 (ih (x2 + 0) (x3 + 1) σ hw) ⟨rfl, rfl, rfl, trivial⟩
      · replace hw := hw.2 h
        refine r_iconst hC dX8_count_69 ?_
        refine r_goto (tgt := 74) hC dX8_count_70 (by decide) ?_
        refine r_iadd hC dX8_count_74 ?_
        refine r_istore_n (l' := [_, _, _, _]) hC dX8_count_75 rfl (by decide) rfl ?_
        refine r_iinc (l' := [_, _, _, _]) hC dX8_count_76 rfl rfl (by decide) rfl ?_
        refine r_goto (tgt := 51) hC dX8_count_79 (by decide) ?_
        exact J.drop2 (ih (x2 + 1) (x3 + 1) σ hw) ⟨rfl, rfl, rfl, trivial⟩
def wp_X8_count_86 (po : Int → St → Prop) : Nat → Int → Int → St → Prop
  | 0, _, _, _ => False
  | n + 1, x2, x3, σ => (nm (gI σ 100 0 0) ≤ nm x3 → po x2 σ) ∧
 (nm x3 < nm (gI σ 100 0 0) → (0 ≤ nm x3 ∧ nm x3 < 16) ∧ (nm (gI σ 110 7 (nm x3).toNat) = 0 → wp_X8_count_86 po n (x2 + 0) (x3 + 1) σ) ∧
 (nm (gI σ 110 7 (nm x3).toNat) ≠ 0 → wp_X8_count_86 po n (x2 + 1) (x3 + 1) σ))
set_option maxRecDepth 100000 in
set_option maxHeartbeats 4000000 in
theorem j_X8_count_86 {K : JK} (hR : kRm K = ({ frames := 1, cells := 0, slots := 0, locals := 22 } : Room)) (hC : Cx K cX8_count 4 RX8) {po : Int → St → Prop} (hM : Mx K (some .int) (PI po)) : ∀ (n : Nat) (x2 : Int) (x3 : Int) (σ : St), wp_X8_count_86 po n x2 x3 σ → J K 86 [some (wr 30 (some 0)), none, some (wi x2), some (wi x3)] [] σ 0 0 := by
  intro n
  induction n with
  | zero =>
    intro x2 x3 σ hw
    exact False.elim hw
  | succ n ih =>
    intro x2 x3 σ hw
    unfold wp_X8_count_86 at hw
    refine r_iload_n hC dX8_count_86 rfl ?_
    refine r_aload_n hC dX8_count_87 rfl ?_
    refine gf_X8_138 hC dX8_count_88 ?_
    refine r_icmp_ge (tgt := 117) hC dX8_count_91 (by decide) (fun h => ?_) (fun h => ?_)
    · replace hw := hw.1 h
      refine r_iload_n hC dX8_count_117 rfl ?_
      exact r_ireturn hC hM ⟨_, rfl, hw⟩ (by rw [hR]; decide) (by rw [hR]; decide) dX8_count_118
    · replace hw := hw.2 h
      refine r_iload_n hC dX8_count_94 rfl ?_
      refine r_aload_n hC dX8_count_95 rfl ?_
      refine gf_X8_30 hC dX8_count_96 ?_
      refine r_iload_n hC dX8_count_99 rfl ?_
      refine r_iaload hC rfl (by decide) hw.1 dX8_count_100 ?_
      replace hw := hw.2
      refine r_if_eq (tgt := 108) hC dX8_count_101 (by decide) (fun h => ?_) (fun h => ?_)
      · replace hw := hw.1 h
        refine r_iconst hC dX8_count_108 ?_
        refine r_iadd hC dX8_count_109 ?_
        refine r_istore_n (l' := [_, _, _, _]) hC dX8_count_110 rfl (by decide) rfl ?_
        refine r_iinc (l' := [_, _, _, _]) hC dX8_count_111 rfl rfl (by decide) rfl ?_
        refine r_goto (tgt := 86) hC dX8_count_114 (by decide) ?_
        exact J.drop2 (ih (x2 + 0) (x3 + 1) σ hw) ⟨rfl, rfl, rfl, trivial⟩
      · replace hw := hw.2 h
        refine r_iconst hC dX8_count_104 ?_
        refine r_goto (tgt := 109) hC dX8_count_105 (by decide) ?_
        refine r_iadd hC dX8_count_109 ?_
        refine r_istore_n (l' := [_, _, _, _]) hC dX8_count_110 rfl (by decide) rfl ?_
        refine r_iinc (l' := [_, _, _, _]) hC dX8_count_111 rfl rfl (by decide) rfl ?_
        refine r_goto (tgt := 86) hC dX8_count_114 (by decide) ?_
        exact J.drop2 (ih (x2 + 1) (x3 + 1) σ hw) ⟨rfl, rfl, rfl, trivial⟩
def wp_X8_count_121 (po : Int → St → Prop) : Nat → Int → Int → St → Prop
  | 0, _, _, _ => False
  | n + 1, x2, x3, σ => (nm 12 ≤ nm x3 → po x2 σ) ∧
 (nm x3 < nm 12 → (0 ≤ nm x3 ∧ nm x3 < 24) ∧ (nm (gI σ 110 24 (nm x3).toNat) = 0 → wp_X8_count_121 po n (x2 + 0) (x3 + 1) σ) ∧
 (nm (gI σ 110 24 (nm x3).toNat) ≠ 0 → wp_X8_count_121 po n (x2 + 1) (x3 + 1) σ))
set_option maxRecDepth 100000 in
set_option maxHeartbeats 4000000 in
theorem j_X8_count_121 {K : JK} (hR : kRm K = ({ frames := 1, cells := 0, slots := 0, locals := 22 } : Room)) (hC : Cx K cX8_count 4 RX8) {po : Int → St → Prop} (hM : Mx K (some .int) (PI po)) : ∀ (n : Nat) (x2 : Int) (x3 : Int) (σ : St), wp_X8_count_121 po n x2 x3 σ → J K 121 [some (wr 30 (some 0)), none, some (wi x2), some (wi x3)] [] σ 0 0 := by
  intro n
  induction n with
  | zero =>
    intro x2 x3 σ hw
    exact False.elim hw
  | succ n ih =>
    intro x2 x3 σ hw
    unfold wp_X8_count_121 at hw
    refine r_iload_n hC dX8_count_121 rfl ?_
    refine r_bipush hC dX8_count_122 (by decide) ?_
    refine r_icmp_ge (tgt := 150) hC dX8_count_124 (by decide) (fun h => ?_) (fun h => ?_)
    · replace hw := hw.1 h
      refine r_iload_n hC dX8_count_150 rfl ?_
      exact r_ireturn hC hM ⟨_, rfl, hw⟩ (by rw [hR]; decide) (by rw [hR]; decide) dX8_count_151
    · replace hw := hw.2 h
      refine r_iload_n hC dX8_count_127 rfl ?_
      refine r_aload_n hC dX8_count_128 rfl ?_
      refine gf_X8_78 hC dX8_count_129 ?_
      refine r_iload_n hC dX8_count_132 rfl ?_
      refine r_zaload hC rfl (by decide) hw.1 dX8_count_133 ?_
      replace hw := hw.2
      refine r_if_eq (tgt := 141) hC dX8_count_134 (by decide) (fun h => ?_) (fun h => ?_)
      · replace hw := hw.1 h
        refine r_iconst hC dX8_count_141 ?_
        refine r_iadd hC dX8_count_142 ?_
        refine r_istore_n (l' := [_, _, _, _]) hC dX8_count_143 rfl (by decide) rfl ?_
        refine r_iinc (l' := [_, _, _, _]) hC dX8_count_144 rfl rfl (by decide) rfl ?_
        refine r_goto (tgt := 121) hC dX8_count_147 (by decide) ?_
        exact J.drop2 (ih (x2 + 0) (x3 + 1) σ hw) ⟨rfl, rfl, rfl, trivial⟩
      · replace hw := hw.2 h
        refine r_iconst hC dX8_count_137 ?_
        refine r_goto (tgt := 142) hC dX8_count_138 (by decide) ?_
        refine r_iadd hC dX8_count_142 ?_
        refine r_istore_n (l' := [_, _, _, _]) hC dX8_count_143 rfl (by decide) rfl ?_
        refine r_iinc (l' := [_, _, _, _]) hC dX8_count_144 rfl rfl (by decide) rfl ?_
        refine r_goto (tgt := 121) hC dX8_count_147 (by decide) ?_
        exact J.drop2 (ih (x2 + 1) (x3 + 1) σ hw) ⟨rfl, rfl, rfl, trivial⟩
def wp_X8_count_155 (po : Int → St → Prop) : Nat → Int → Int → St → Prop
  | 0, _, _, _ => False
  | n + 1, x2, x3, σ => (nm 24 ≤ nm x3 → po x2 σ) ∧
 (nm x3 < nm 24 → (0 ≤ nm x3 ∧ nm x3 < 24) ∧ (nm (gI σ 110 24 (nm x3).toNat) = 0 → wp_X8_count_155 po n (x2 + 0) (x3 + 1) σ) ∧
 (nm (gI σ 110 24 (nm x3).toNat) ≠ 0 → wp_X8_count_155 po n (x2 + 1) (x3 + 1) σ))
set_option maxRecDepth 100000 in
set_option maxHeartbeats 4000000 in
theorem j_X8_count_155 {K : JK} (hR : kRm K = ({ frames := 1, cells := 0, slots := 0, locals := 22 } : Room)) (hC : Cx K cX8_count 4 RX8) {po : Int → St → Prop} (hM : Mx K (some .int) (PI po)) : ∀ (n : Nat) (x2 : Int) (x3 : Int) (σ : St), wp_X8_count_155 po n x2 x3 σ → J K 155 [some (wr 30 (some 0)), none, some (wi x2), some (wi x3)] [] σ 0 0 := by
  intro n
  induction n with
  | zero =>
    intro x2 x3 σ hw
    exact False.elim hw
  | succ n ih =>
    intro x2 x3 σ hw
    unfold wp_X8_count_155 at hw
    refine r_iload_n hC dX8_count_155 rfl ?_
    refine r_bipush hC dX8_count_156 (by decide) ?_
    refine r_icmp_ge (tgt := 184) hC dX8_count_158 (by decide) (fun h => ?_) (fun h => ?_)
    · replace hw := hw.1 h
      refine r_iload_n hC dX8_count_184 rfl ?_
      exact r_ireturn hC hM ⟨_, rfl, hw⟩ (by rw [hR]; decide) (by rw [hR]; decide) dX8_count_185
    · replace hw := hw.2 h
      refine r_iload_n hC dX8_count_161 rfl ?_
      refine r_aload_n hC dX8_count_162 rfl ?_
      refine gf_X8_78 hC dX8_count_163 ?_
      refine r_iload_n hC dX8_count_166 rfl ?_
      refine r_zaload hC rfl (by decide) hw.1 dX8_count_167 ?_
      replace hw := hw.2
      refine r_if_eq (tgt := 175) hC dX8_count_168 (by decide) (fun h => ?_) (fun h => ?_)
      · replace hw := hw.1 h
        refine r_iconst hC dX8_count_175 ?_
        refine r_iadd hC dX8_count_176 ?_
        refine r_istore_n (l' := [_, _, _, _]) hC dX8_count_177 rfl (by decide) rfl ?_
        refine r_iinc (l' := [_, _, _, _]) hC dX8_count_178 rfl rfl (by decide) rfl ?_
        refine r_goto (tgt := 155) hC dX8_count_181 (by decide) ?_
        exact J.drop2 (ih (x2 + 0) (x3 + 1) σ hw) ⟨rfl, rfl, rfl, trivial⟩
      · replace hw := hw.2 h
        refine r_iconst hC dX8_count_171 ?_
        refine r_goto (tgt := 176) hC dX8_count_172 (by decide) ?_
        refine r_iadd hC dX8_count_176 ?_
        refine r_istore_n (l' := [_, _, _, _]) hC dX8_count_177 rfl (by decide) rfl ?_
        refine r_iinc (l' := [_, _, _, _]) hC dX8_count_178 rfl rfl (by decide) rfl ?_
        refine r_goto (tgt := 155) hC dX8_count_181 (by decide) ?_
        exact J.drop2 (ih (x2 + 1) (x3 + 1) σ hw) ⟨rfl, rfl, rfl, trivial⟩
def wp_X8_count_193 (po : Int → St → Prop) : Nat → Int → Int → St → Prop
  | 0, _, _, _ => False
  | n + 1, x2, x3, σ => (nm 12 ≤ nm x3 → po x2 σ) ∧
 (nm x3 < nm 12 → (0 ≤ nm x3 ∧ nm x3 < 24) ∧ (nm (gI σ 110 24 (nm x3).toNat) = 0 → wp_X8_count_193 po n (x2 + 0) (x3 + 1) σ) ∧
 (nm (gI σ 110 24 (nm x3).toNat) ≠ 0 → (0 ≤ nm x3 ∧ nm x3 < 12) ∧ wp_X8_count_193 po n (x2 + (gI σ 110 34 (nm x3).toNat)) (x3 + 1) σ))
set_option maxRecDepth 100000 in
set_option maxHeartbeats 4000000 in
theorem j_X8_count_193 {K : JK} (hR : kRm K = ({ frames := 1, cells := 0, slots := 0, locals := 22 } : Room)) (hC : Cx K cX8_count 4 RX8) {po : Int → St → Prop} (hM : Mx K (some .int) (PI po)) : ∀ (n : Nat) (x2 : Int) (x3 : Int) (σ : St), wp_X8_count_193 po n x2 x3 σ → J K 193 [some (wr 30 (some 0)), none, some (wi x2), some (wi x3)] [] σ 0 0 := by
  intro n
  induction n with
  | zero =>
    intro x2 x3 σ hw
    exact False.elim hw
  | succ n ih =>
    intro x2 x3 σ hw
    unfold wp_X8_count_193 at hw
    refine r_iload_n hC dX8_count_193 rfl ?_
    refine r_bipush hC dX8_count_194 (by decide) ?_
    refine r_icmp_ge (tgt := 227) hC dX8_count_196 (by decide) (fun h => ?_) (fun h => ?_)
    · replace hw := hw.1 h
      refine r_iload_n hC dX8_count_227 rfl ?_
      exact r_ireturn hC hM ⟨_, rfl, hw⟩ (by rw [hR]; decide) (by rw [hR]; decide) dX8_count_228
    · replace hw := hw.2 h
      refine r_iload_n hC dX8_count_199 rfl ?_
      refine r_aload_n hC dX8_count_200 rfl ?_
      refine gf_X8_78 hC dX8_count_201 ?_
      refine r_iload_n hC dX8_count_204 rfl ?_
      refine r_zaload hC rfl (by decide) hw.1 dX8_count_205 ?_
      replace hw := hw.2
      refine r_if_eq (tgt := 218) hC dX8_count_206 (by decide) (fun h => ?_) (fun h => ?_)
      · replace hw := hw.1 h
        refine r_iconst hC dX8_count_218 ?_
        refine r_iadd hC dX8_count_219 ?_
        refine r_istore_n (l' := [_, _, _, _]) hC dX8_count_220 rfl (by decide) rfl ?_
        refine r_iinc (l' := [_, _, _, _]) hC dX8_count_221 rfl rfl (by decide) rfl ?_
        refine r_goto (tgt := 193) hC dX8_count_224 (by decide) ?_
        exact J.drop2 (ih (x2 + 0) (x3 + 1) σ hw) ⟨rfl, rfl, rfl, trivial⟩
      · replace hw := hw.2 h
        refine r_aload_n hC dX8_count_209 rfl ?_
        refine gf_X8_108 hC dX8_count_210 ?_
        refine r_iload_n hC dX8_count_213 rfl ?_
        refine r_iaload hC rfl (by decide) hw.1 dX8_count_214 ?_
        replace hw := hw.2
        refine r_goto (tgt := 219) hC dX8_count_215 (by decide) ?_
        refine r_iadd hC dX8_count_219 ?_
        refine r_istore_n (l' := [_, _, _, _]) hC dX8_count_220 rfl (by decide) rfl ?_
        refine r_iinc (l' := [_, _, _, _]) hC dX8_count_221 rfl rfl (by decide) rfl ?_
        refine r_goto (tgt := 193) hC dX8_count_224 (by decide) ?_
        exact J.drop2 (ih (x2 + (gI σ 110 34 (nm x3).toNat)) (x3 + 1) σ hw) ⟨rfl, rfl, rfl, trivial⟩
def wp_X8_count (x1 : Int) (σ : St) (po : Int → St → Prop) : Prop := (nm x1 = 0 → po (gI σ 100 0 0) σ) ∧
 (nm x1 = 1 → ∃ n9, wp_X8_count_51 po n9 0 0 σ) ∧
 (nm x1 = 2 → ∃ n9, wp_X8_count_86 po n9 0 0 σ) ∧
 (nm x1 = 3 → ∃ n9, wp_X8_count_121 po n9 0 0 σ) ∧
 (nm x1 = 4 → ∃ n9, wp_X8_count_155 po n9 0 12 σ) ∧
 (nm x1 = 5 → wp_X8_allBytes  σ (fun r101 s101 => po r101 s101)) ∧
 (nm x1 = 6 → ∃ n9, wp_X8_count_193 po n9 0 0 σ) ∧
 ((nm x1 < 0 ∨ 6 < nm x1) → po (-4) σ)
set_option maxRecDepth 100000 in
set_option maxHeartbeats 4000000 in
theorem c_X8_count (l : Launch) {x1 : Int} {σ : St} {po : Int → St → Prop} (hw : wp_X8_count x1 σ po) : MT l yX8_count cX8_count 4 (some .int) ({ frames := 1, cells := 0, slots := 0, locals := 22 } : Room) [wr 30 (some 0), wi x1] σ (PI po) := by
  refine MT_of (by decide) (Nat.le_of_ble_eq_true rfl) (fun K hL hR hC hM => ?_)
  subst hL
  unfold wp_X8_count at hw
  show J K 0 [some (wr 30 (some 0)), some (wi x1), none, none] [] σ 0 0
  refine r_iconst hC dX8_count_0 ?_
  refine r_istore_n (l' := [_, _, _, _]) hC dX8_count_1 rfl (by decide) rfl ?_
  refine r_iload_n hC dX8_count_2 rfl ?_
  have hsw : nm x1 = 0 ∨ nm x1 = 1 ∨ nm x1 = 2 ∨ nm x1 = 3 ∨ nm x1 = 4 ∨ nm x1 = 5 ∨ nm x1 = 6 ∨ (nm x1 < 0 ∨ 6 < nm x1) := by omega
  rcases hsw with h | h | h | h | h | h | h | h
  · replace hw := hw.1 h
    refine r_tabIn (tgt := 44) hC 0 h dX8_count_3 (by decide) (by decide) rfl (by decide) ?_
    refine r_aload_n hC dX8_count_44 rfl ?_
    refine gf_X8_138 hC dX8_count_45 ?_
    exact r_ireturn hC hM ⟨_, rfl, hw⟩ (by rw [hR]; decide) (by rw [hR]; decide) dX8_count_48
  · replace hw := hw.2.1 h
    refine r_tabIn (tgt := 49) hC 1 h dX8_count_3 (by decide) (by decide) rfl (by decide) ?_
    refine r_iconst hC dX8_count_49 ?_
    refine r_istore_n (l' := [_, _, _, _]) hC dX8_count_50 rfl (by decide) rfl ?_
    obtain ⟨n9, hw⟩ := hw
    exact J.drop2 (j_X8_count_51 hR hC hM n9 0 0 σ hw) ⟨rfl, rfl, rfl, trivial⟩
  · replace hw := hw.2.2.1 h
    refine r_tabIn (tgt := 84) hC 2 h dX8_count_3 (by decide) (by decide) rfl (by decide) ?_
    refine r_iconst hC dX8_count_84 ?_
    refine r_istore_n (l' := [_, _, _, _]) hC dX8_count_85 rfl (by decide) rfl ?_
    obtain ⟨n9, hw⟩ := hw
    exact J.drop2 (j_X8_count_86 hR hC hM n9 0 0 σ hw) ⟨rfl, rfl, rfl, trivial⟩
  · replace hw := hw.2.2.2.1 h
    refine r_tabIn (tgt := 119) hC 3 h dX8_count_3 (by decide) (by decide) rfl (by decide) ?_
    refine r_iconst hC dX8_count_119 ?_
    refine r_istore_n (l' := [_, _, _, _]) hC dX8_count_120 rfl (by decide) rfl ?_
    obtain ⟨n9, hw⟩ := hw
    exact J.drop2 (j_X8_count_121 hR hC hM n9 0 0 σ hw) ⟨rfl, rfl, rfl, trivial⟩
  · replace hw := hw.2.2.2.2.1 h
    refine r_tabIn (tgt := 152) hC 4 h dX8_count_3 (by decide) (by decide) rfl (by decide) ?_
    refine r_bipush hC dX8_count_152 (by decide) ?_
    refine r_istore_n (l' := [_, _, _, _]) hC dX8_count_154 rfl (by decide) rfl ?_
    obtain ⟨n9, hw⟩ := hw
    exact J.drop2 (j_X8_count_155 hR hC hM n9 0 12 σ hw) ⟨rfl, rfl, rfl, trivial⟩
  · replace hw := hw.2.2.2.2.2.1 h
    refine r_tabIn (tgt := 186) hC 5 h dX8_count_3 (by decide) (by decide) rfl (by decide) ?_
    refine r_aload_n hC dX8_count_186 rfl ?_
    refine cl_X8_220 hC (c_X8_allBytes (kL K) hw) (by rw [hR]; decide) (Nat.le_of_ble_eq_true rfl) dX8_count_187 (fun r101 s101 hq => ?_)
    clear hw
    have hw := hq
    clear hq
    exact r_ireturn hC hM ⟨_, rfl, hw⟩ (by rw [hR]; decide) (by rw [hR]; decide) dX8_count_190
  · replace hw := hw.2.2.2.2.2.2.1 h
    refine r_tabIn (tgt := 191) hC 6 h dX8_count_3 (by decide) (by decide) rfl (by decide) ?_
    refine r_iconst hC dX8_count_191 ?_
    refine r_istore_n (l' := [_, _, _, _]) hC dX8_count_192 rfl (by decide) rfl ?_
    obtain ⟨n9, hw⟩ := hw
    exact J.drop2 (j_X8_count_193 hR hC hM n9 0 0 σ hw) ⟨rfl, rfl, rfl, trivial⟩
  · replace hw := hw.2.2.2.2.2.2.2 h
    refine r_tabOut (tgt := 229) hC h dX8_count_3 (by decide) ?_
    refine r_bipush hC dX8_count_229 (by decide) ?_
    exact r_ireturn hC hM ⟨_, rfl, hw⟩ (by rw [hR]; decide) (by rw [hR]; decide) dX8_count_231
