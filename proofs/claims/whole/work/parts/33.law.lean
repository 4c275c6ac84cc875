theorem tw_2_21 : Jvm.Cond.methodLink "TamedClassSetLaw" (13 : Nat) ({ cls := "TamedClassSet", name := "addClass", desc := "(II)I" } : Jvm.MethodName) ∈ tx_ws := List.mem_filter.mpr ⟨List.mem_append_right _ (List.mem_append_right _ (List.mem_append_left _ (List.mem_of_getElem? (i := 21) rfl))), rfl⟩
theorem tw_2_33 : Jvm.Cond.methodLink "TamedClassSetLaw" (18 : Nat) ({ cls := "TamedClassSet", name := "addField", desc := "(III)I" } : Jvm.MethodName) ∈ tx_ws := List.mem_filter.mpr ⟨List.mem_append_right _ (List.mem_append_right _ (List.mem_append_left _ (List.mem_of_getElem? (i := 33) rfl))), rfl⟩
theorem tw_2_45 : Jvm.Cond.methodLink "TamedClassSetLaw" (23 : Nat) ({ cls := "TamedClassSet", name := "addMethod", desc := "(IIIII)I" } : Jvm.MethodName) ∈ tx_ws := List.mem_filter.mpr ⟨List.mem_append_right _ (List.mem_append_right _ (List.mem_append_left _ (List.mem_of_getElem? (i := 45) rfl))), rfl⟩
theorem tw_2_57 : Jvm.Cond.methodLink "TamedClassSetLaw" (28 : Nat) ({ cls := "TamedClassSet", name := "emit", desc := "(III)I" } : Jvm.MethodName) ∈ tx_ws := List.mem_filter.mpr ⟨List.mem_append_right _ (List.mem_append_right _ (List.mem_append_left _ (List.mem_of_getElem? (i := 57) rfl))), rfl⟩
theorem tw_2_69 : Jvm.Cond.methodLink "TamedClassSetLaw" (32 : Nat) ({ cls := "TamedClassSet", name := "check", desc := "()I" } : Jvm.MethodName) ∈ tx_ws := List.mem_filter.mpr ⟨List.mem_append_right _ (List.mem_append_right _ (List.mem_append_left _ (List.mem_of_getElem? (i := 69) rfl))), rfl⟩
theorem tw_2_234 : Jvm.Cond.methodLink "TamedClassSetLaw" (37 : Nat) ({ cls := "TamedClassSet", name := "clear", desc := "()V" } : Jvm.MethodName) ∈ tx_ws := List.mem_filter.mpr ⟨List.mem_append_right _ (List.mem_append_right _ (List.mem_append_left _ (List.mem_of_getElem? (i := 234) rfl))), rfl⟩
theorem tw_3_6 : Jvm.Cond.methodLink "TamedClassSetLaw" (41 : Nat) ({ cls := "TamedClassSet", name := "typesAt", desc := "(II)I" } : Jvm.MethodName) ∈ tx_ws := List.mem_filter.mpr ⟨List.mem_append_right _ (List.mem_append_right _ (List.mem_append_right _ (List.mem_append_left _ (List.mem_of_getElem? (i := 6) rfl)))), rfl⟩
theorem tw_3_11 : Jvm.Cond.methodLink "TamedClassSetLaw" (45 : Nat) ({ cls := "TamedClassSet", name := "run", desc := "(III)J" } : Jvm.MethodName) ∈ tx_ws := List.mem_filter.mpr ⟨List.mem_append_right _ (List.mem_append_right _ (List.mem_append_right _ (List.mem_append_left _ (List.mem_of_getElem? (i := 11) rfl)))), rfl⟩
theorem tw_3_135 : Jvm.Cond.methodLink "TamedClassSetLaw" (50 : Nat) ({ cls := "TamedClassSet", name := "look", desc := "(II)J" } : Jvm.MethodName) ∈ tx_ws := List.mem_filter.mpr ⟨List.mem_append_right _ (List.mem_append_right _ (List.mem_append_right _ (List.mem_append_left _ (List.mem_of_getElem? (i := 135) rfl)))), rfl⟩
theorem tw_3_143 : Jvm.Cond.methodLink "TamedClassSetLaw" (55 : Nat) ({ cls := "TamedClassSet", name := "held", desc := "(I)I" } : Jvm.MethodName) ∈ tx_ws := List.mem_filter.mpr ⟨List.mem_append_right _ (List.mem_append_right _ (List.mem_append_right _ (List.mem_append_left _ (List.mem_of_getElem? (i := 143) rfl)))), rfl⟩
theorem tw_3_147 : Jvm.Cond.methodLink "TamedClassSetLaw" (60 : Nat) ({ cls := "TamedClassSet", name := "runs", desc := "()I" } : Jvm.MethodName) ∈ tx_ws := List.mem_filter.mpr ⟨List.mem_append_right _ (List.mem_append_right _ (List.mem_append_right _ (List.mem_append_left _ (List.mem_of_getElem? (i := 147) rfl)))), rfl⟩
theorem tw_3_151 : Jvm.Cond.methodLink "TamedClassSetLaw" (64 : Nat) ({ cls := "TamedClassSet", name := "steps", desc := "()I" } : Jvm.MethodName) ∈ tx_ws := List.mem_filter.mpr ⟨List.mem_append_right _ (List.mem_append_right _ (List.mem_append_right _ (List.mem_append_left _ (List.mem_of_getElem? (i := 151) rfl)))), rfl⟩
theorem tw_4_28 : Jvm.Cond.methodLink "TamedClassSetLaw" (17 : Nat) ({ cls := "TamedClassSetModel", name := "addClass", desc := "(II)I" } : Jvm.MethodName) ∈ tx_ws := List.mem_filter.mpr ⟨List.mem_append_right _ (List.mem_append_right _ (List.mem_append_right _ (List.mem_append_right _ (List.mem_append_left _ (List.mem_of_getElem? (i := 28) rfl))))), rfl⟩
theorem tw_4_36 : Jvm.Cond.methodLink "TamedClassSetLaw" (22 : Nat) ({ cls := "TamedClassSetModel", name := "addField", desc := "(III)I" } : Jvm.MethodName) ∈ tx_ws := List.mem_filter.mpr ⟨List.mem_append_right _ (List.mem_append_right _ (List.mem_append_right _ (List.mem_append_right _ (List.mem_append_left _ (List.mem_of_getElem? (i := 36) rfl))))), rfl⟩
theorem tw_4_44 : Jvm.Cond.methodLink "TamedClassSetLaw" (27 : Nat) ({ cls := "TamedClassSetModel", name := "addMethod", desc := "(IIIII)I" } : Jvm.MethodName) ∈ tx_ws := List.mem_filter.mpr ⟨List.mem_append_right _ (List.mem_append_right _ (List.mem_append_right _ (List.mem_append_right _ (List.mem_append_left _ (List.mem_of_getElem? (i := 44) rfl))))), rfl⟩
theorem tw_4_52 : Jvm.Cond.methodLink "TamedClassSetLaw" (31 : Nat) ({ cls := "TamedClassSetModel", name := "emit", desc := "(III)I" } : Jvm.MethodName) ∈ tx_ws := List.mem_filter.mpr ⟨List.mem_append_right _ (List.mem_append_right _ (List.mem_append_right _ (List.mem_append_right _ (List.mem_append_left _ (List.mem_of_getElem? (i := 52) rfl))))), rfl⟩
theorem tw_4_60 : Jvm.Cond.methodLink "TamedClassSetLaw" (40 : Nat) ({ cls := "TamedClassSetModel", name := "clear", desc := "()V" } : Jvm.MethodName) ∈ tx_ws := List.mem_filter.mpr ⟨List.mem_append_right _ (List.mem_append_right _ (List.mem_append_right _ (List.mem_append_right _ (List.mem_append_left _ (List.mem_of_getElem? (i := 60) rfl))))), rfl⟩
theorem tw_4_64 : Jvm.Cond.methodLink "TamedClassSetLaw" (36 : Nat) ({ cls := "TamedClassSetModel", name := "check", desc := "()I" } : Jvm.MethodName) ∈ tx_ws := List.mem_filter.mpr ⟨List.mem_append_right _ (List.mem_append_right _ (List.mem_append_right _ (List.mem_append_right _ (List.mem_append_left _ (List.mem_of_getElem? (i := 64) rfl))))), rfl⟩
theorem tw_4_180 : Jvm.Cond.methodLink "TamedClassSetLaw" (44 : Nat) ({ cls := "TamedClassSetModel", name := "typesAt", desc := "(II)I" } : Jvm.MethodName) ∈ tx_ws := List.mem_filter.mpr ⟨List.mem_append_right _ (List.mem_append_right _ (List.mem_append_right _ (List.mem_append_right _ (List.mem_append_left _ (List.mem_of_getElem? (i := 180) rfl))))), rfl⟩
theorem tw_4_184 : Jvm.Cond.methodLink "TamedClassSetLaw" (49 : Nat) ({ cls := "TamedClassSetModel", name := "run", desc := "(III)J" } : Jvm.MethodName) ∈ tx_ws := List.mem_filter.mpr ⟨List.mem_append_right _ (List.mem_append_right _ (List.mem_append_right _ (List.mem_append_right _ (List.mem_append_left _ (List.mem_of_getElem? (i := 184) rfl))))), rfl⟩
theorem tw_5_13 : Jvm.Cond.methodLink "TamedClassSetLaw" (54 : Nat) ({ cls := "TamedClassSetModel", name := "look", desc := "(II)J" } : Jvm.MethodName) ∈ tx_ws := List.mem_filter.mpr ⟨List.mem_append_right _ (List.mem_append_right _ (List.mem_append_right _ (List.mem_append_right _ (List.mem_append_right _ (List.mem_of_getElem? (i := 13) rfl))))), rfl⟩
theorem tw_5_17 : Jvm.Cond.methodLink "TamedClassSetLaw" (59 : Nat) ({ cls := "TamedClassSetModel", name := "held", desc := "(I)I" } : Jvm.MethodName) ∈ tx_ws := List.mem_filter.mpr ⟨List.mem_append_right _ (List.mem_append_right _ (List.mem_append_right _ (List.mem_append_right _ (List.mem_append_right _ (List.mem_of_getElem? (i := 17) rfl))))), rfl⟩
theorem tw_5_21 : Jvm.Cond.methodLink "TamedClassSetLaw" (63 : Nat) ({ cls := "TamedClassSetModel", name := "runs", desc := "()I" } : Jvm.MethodName) ∈ tx_ws := List.mem_filter.mpr ⟨List.mem_append_right _ (List.mem_append_right _ (List.mem_append_right _ (List.mem_append_right _ (List.mem_append_right _ (List.mem_of_getElem? (i := 21) rfl))))), rfl⟩
theorem tw_5_25 : Jvm.Cond.methodLink "TamedClassSetLaw" (67 : Nat) ({ cls := "TamedClassSetModel", name := "steps", desc := "()I" } : Jvm.MethodName) ∈ tx_ws := List.mem_filter.mpr ⟨List.mem_append_right _ (List.mem_append_right _ (List.mem_append_right _ (List.mem_append_right _ (List.mem_append_right _ (List.mem_of_getElem? (i := 25) rfl))))), rfl⟩
theorem lk_law_13 : tx_LK "TamedClassSetLaw" 13 y_X_addClass := Or.inl tw_2_21
theorem lk_law_17 : tx_LK "TamedClassSetLaw" 17 y_Mo_addClass := Or.inl tw_4_28
theorem lk_law_18 : tx_LK "TamedClassSetLaw" 18 y_X_addField := Or.inl tw_2_33
theorem lk_law_22 : tx_LK "TamedClassSetLaw" 22 y_Mo_addField := Or.inl tw_4_36
theorem lk_law_23 : tx_LK "TamedClassSetLaw" 23 y_X_addMethod := Or.inl tw_2_45
theorem lk_law_27 : tx_LK "TamedClassSetLaw" 27 y_Mo_addMethod := Or.inl tw_4_44
theorem lk_law_28 : tx_LK "TamedClassSetLaw" 28 y_X_emit := Or.inl tw_2_57
theorem lk_law_31 : tx_LK "TamedClassSetLaw" 31 y_Mo_emit := Or.inl tw_4_52
theorem lk_law_32 : tx_LK "TamedClassSetLaw" 32 y_X_check := Or.inl tw_2_69
theorem lk_law_36 : tx_LK "TamedClassSetLaw" 36 y_Mo_check := Or.inl tw_4_64
theorem lk_law_37 : tx_LK "TamedClassSetLaw" 37 y_X_clear := Or.inl tw_2_234
theorem lk_law_40 : tx_LK "TamedClassSetLaw" 40 y_Mo_clear := Or.inl tw_4_60
theorem lk_law_41 : tx_LK "TamedClassSetLaw" 41 y_X_typesAt := Or.inl tw_3_6
theorem lk_law_44 : tx_LK "TamedClassSetLaw" 44 y_Mo_typesAt := Or.inl tw_4_180
theorem lk_law_45 : tx_LK "TamedClassSetLaw" 45 y_X_run := Or.inl tw_3_11
theorem lk_law_49 : tx_LK "TamedClassSetLaw" 49 y_Mo_run := Or.inl tw_4_184
theorem lk_law_50 : tx_LK "TamedClassSetLaw" 50 y_X_look := Or.inl tw_3_135
theorem lk_law_54 : tx_LK "TamedClassSetLaw" 54 y_Mo_look := Or.inl tw_5_13
theorem lk_law_55 : tx_LK "TamedClassSetLaw" 55 y_X_held := Or.inl tw_3_143
theorem lk_law_59 : tx_LK "TamedClassSetLaw" 59 y_Mo_held := Or.inl tw_5_17
theorem lk_law_60 : tx_LK "TamedClassSetLaw" 60 y_X_runs := Or.inl tw_3_147
theorem lk_law_63 : tx_LK "TamedClassSetLaw" 63 y_Mo_runs := Or.inl tw_5_21
theorem lk_law_64 : tx_LK "TamedClassSetLaw" 64 y_X_steps := Or.inl tw_3_151
theorem lk_law_67 : tx_LK "TamedClassSetLaw" 67 y_Mo_steps := Or.inl tw_5_25
theorem tl_fi_Mo_addClass : tl_fit mi_Mo_addClass := ⟨rfl, rfl, Nat.le_of_ble_eq_true rfl, Nat.le_of_ble_eq_true rfl⟩
theorem tl_fi_Mo_addField : tl_fit mi_Mo_addField := ⟨rfl, rfl, Nat.le_of_ble_eq_true rfl, Nat.le_of_ble_eq_true rfl⟩
theorem tl_fi_Mo_addMethod : tl_fit mi_Mo_addMethod := ⟨rfl, rfl, Nat.le_of_ble_eq_true rfl, Nat.le_of_ble_eq_true rfl⟩
theorem tl_fi_Mo_check : tl_fit mi_Mo_check := ⟨rfl, rfl, Nat.le_of_ble_eq_true rfl, Nat.le_of_ble_eq_true rfl⟩
theorem tl_fi_Mo_clear : tl_fit mi_Mo_clear := ⟨rfl, rfl, Nat.le_of_ble_eq_true rfl, Nat.le_of_ble_eq_true rfl⟩
theorem tl_fi_Mo_emit : tl_fit mi_Mo_emit := ⟨rfl, rfl, Nat.le_of_ble_eq_true rfl, Nat.le_of_ble_eq_true rfl⟩
theorem tl_fi_Mo_held : tl_fit mi_Mo_held := ⟨rfl, rfl, Nat.le_of_ble_eq_true rfl, Nat.le_of_ble_eq_true rfl⟩
theorem tl_fi_Mo_look : tl_fit mi_Mo_look := ⟨rfl, rfl, Nat.le_of_ble_eq_true rfl, Nat.le_of_ble_eq_true rfl⟩
theorem tl_fi_Mo_run : tl_fit mi_Mo_run := ⟨rfl, rfl, Nat.le_of_ble_eq_true rfl, Nat.le_of_ble_eq_true rfl⟩
theorem tl_fi_Mo_runs : tl_fit mi_Mo_runs := ⟨rfl, rfl, Nat.le_of_ble_eq_true rfl, Nat.le_of_ble_eq_true rfl⟩
theorem tl_fi_Mo_steps : tl_fit mi_Mo_steps := ⟨rfl, rfl, Nat.le_of_ble_eq_true rfl, Nat.le_of_ble_eq_true rfl⟩
theorem tl_fi_Mo_typesAt : tl_fit mi_Mo_typesAt := ⟨rfl, rfl, Nat.le_of_ble_eq_true rfl, Nat.le_of_ble_eq_true rfl⟩
theorem tl_fi_X_addClass : tl_fit mi_X_addClass := ⟨rfl, rfl, Nat.le_of_ble_eq_true rfl, Nat.le_of_ble_eq_true rfl⟩
theorem tl_fi_X_addField : tl_fit mi_X_addField := ⟨rfl, rfl, Nat.le_of_ble_eq_true rfl, Nat.le_of_ble_eq_true rfl⟩
theorem tl_fi_X_addMethod : tl_fit mi_X_addMethod := ⟨rfl, rfl, Nat.le_of_ble_eq_true rfl, Nat.le_of_ble_eq_true rfl⟩
theorem tl_fi_X_check : tl_fit mi_X_check := ⟨rfl, rfl, Nat.le_of_ble_eq_true rfl, Nat.le_of_ble_eq_true rfl⟩
theorem tl_fi_X_clear : tl_fit mi_X_clear := ⟨rfl, rfl, Nat.le_of_ble_eq_true rfl, Nat.le_of_ble_eq_true rfl⟩
theorem tl_fi_X_emit : tl_fit mi_X_emit := ⟨rfl, rfl, Nat.le_of_ble_eq_true rfl, Nat.le_of_ble_eq_true rfl⟩
theorem tl_fi_X_held : tl_fit mi_X_held := ⟨rfl, rfl, Nat.le_of_ble_eq_true rfl, Nat.le_of_ble_eq_true rfl⟩
theorem tl_fi_X_look : tl_fit mi_X_look := ⟨rfl, rfl, Nat.le_of_ble_eq_true rfl, Nat.le_of_ble_eq_true rfl⟩
theorem tl_fi_X_run : tl_fit mi_X_run := ⟨rfl, rfl, Nat.le_of_ble_eq_true rfl, Nat.le_of_ble_eq_true rfl⟩
theorem tl_fi_X_runs : tl_fit mi_X_runs := ⟨rfl, rfl, Nat.le_of_ble_eq_true rfl, Nat.le_of_ble_eq_true rfl⟩
theorem tl_fi_X_steps : tl_fit mi_X_steps := ⟨rfl, rfl, Nat.le_of_ble_eq_true rfl, Nat.le_of_ble_eq_true rfl⟩
theorem tl_fi_X_typesAt : tl_fit mi_X_typesAt := ⟨rfl, rfl, Nat.le_of_ble_eq_true rfl, Nat.le_of_ble_eq_true rfl⟩
theorem d_law_16 : decode code 16 = .ok (.iconst (0), 1) := by decide +kernel
theorem d_law_17 : decode code 17 = .ok (.istore_n 3, 1) := by decide +kernel
theorem d_law_18 : decode code 18 = .ok (.iload_n 3, 1) := by decide +kernel
theorem d_law_19 : decode code 19 = .ok (.aload_n 0, 1) := by decide +kernel
theorem d_law_20 : decode code 20 = .ok (.arraylength, 1) := by decide +kernel
theorem d_law_21 : decode code 21 = .ok (.bipush (6), 2) := by decide +kernel
theorem d_law_23 : decode code 23 = .ok (.isub, 1) := by decide +kernel
theorem d_law_24 : decode code 24 = .ok (.if_icmp .gt (444), 3) := by decide +kernel
theorem d_law_27 : decode code 27 = .ok (.aload_n 0, 1) := by decide +kernel
theorem d_law_28 : decode code 28 = .ok (.iload_n 3, 1) := by decide +kernel
theorem d_law_29 : decode code 29 = .ok (.iaload, 1) := by decide +kernel
theorem d_law_30 : decode code 30 = .ok (.bipush (15), 2) := by decide +kernel
theorem d_law_32 : decode code 32 = .ok (.iand, 1) := by decide +kernel
theorem d_law_33 : decode code 33 = .ok (.tableswitch (429) (0) (11) #[(63), (96), (139), (202), (245), (258), (269), (302), (346), (380), (403), (416)], 63) := by decide +kernel
theorem d_law_96 : decode code 96 = .ok (.aload_n 1, 1) := by decide +kernel
theorem d_law_97 : decode code 97 = .ok (.aload_n 0, 1) := by decide +kernel
theorem d_law_98 : decode code 98 = .ok (.iload_n 3, 1) := by decide +kernel
theorem d_law_99 : decode code 99 = .ok (.iconst (1), 1) := by decide +kernel
theorem d_law_100 : decode code 100 = .ok (.iadd, 1) := by decide +kernel
theorem d_law_101 : decode code 101 = .ok (.iaload, 1) := by decide +kernel
theorem d_law_102 : decode code 102 = .ok (.aload_n 0, 1) := by decide +kernel
theorem d_law_103 : decode code 103 = .ok (.iload_n 3, 1) := by decide +kernel
theorem d_law_104 : decode code 104 = .ok (.iconst (2), 1) := by decide +kernel
theorem d_law_105 : decode code 105 = .ok (.iadd, 1) := by decide +kernel
theorem d_law_106 : decode code 106 = .ok (.iaload, 1) := by decide +kernel
theorem d_law_107 : decode code 107 = .ok (.invokevirtual 13, 3) := by decide +kernel
theorem d_law_110 : decode code 110 = .ok (.aload_n 2, 1) := by decide +kernel
theorem d_law_111 : decode code 111 = .ok (.aload_n 0, 1) := by decide +kernel
theorem d_law_112 : decode code 112 = .ok (.iload_n 3, 1) := by decide +kernel
theorem d_law_113 : decode code 113 = .ok (.iconst (1), 1) := by decide +kernel
theorem d_law_114 : decode code 114 = .ok (.iadd, 1) := by decide +kernel
theorem d_law_115 : decode code 115 = .ok (.iaload, 1) := by decide +kernel
theorem d_law_116 : decode code 116 = .ok (.aload_n 0, 1) := by decide +kernel
theorem d_law_117 : decode code 117 = .ok (.iload_n 3, 1) := by decide +kernel
theorem d_law_118 : decode code 118 = .ok (.iconst (2), 1) := by decide +kernel
theorem d_law_119 : decode code 119 = .ok (.iadd, 1) := by decide +kernel
theorem d_law_120 : decode code 120 = .ok (.iaload, 1) := by decide +kernel
theorem d_law_121 : decode code 121 = .ok (.invokevirtual 17, 3) := by decide +kernel
theorem d_law_124 : decode code 124 = .ok (.if_icmp .eq (338), 3) := by decide +kernel
theorem d_law_127 : decode code 127 = .ok (.iconst (0), 1) := by decide +kernel
theorem d_law_128 : decode code 128 = .ok (.ireturn, 1) := by decide +kernel
theorem d_law_129 : decode code 129 = .ok (.aload_n 1, 1) := by decide +kernel
theorem d_law_130 : decode code 130 = .ok (.aload_n 0, 1) := by decide +kernel
theorem d_law_131 : decode code 131 = .ok (.iload_n 3, 1) := by decide +kernel
theorem d_law_132 : decode code 132 = .ok (.iconst (1), 1) := by decide +kernel
theorem d_law_133 : decode code 133 = .ok (.iadd, 1) := by decide +kernel
theorem d_law_134 : decode code 134 = .ok (.iaload, 1) := by decide +kernel
theorem d_law_135 : decode code 135 = .ok (.aload_n 0, 1) := by decide +kernel
theorem d_law_136 : decode code 136 = .ok (.iload_n 3, 1) := by decide +kernel
theorem d_law_137 : decode code 137 = .ok (.iconst (2), 1) := by decide +kernel
theorem d_law_138 : decode code 138 = .ok (.iadd, 1) := by decide +kernel
theorem d_law_139 : decode code 139 = .ok (.iaload, 1) := by decide +kernel
theorem d_law_140 : decode code 140 = .ok (.aload_n 0, 1) := by decide +kernel
theorem d_law_141 : decode code 141 = .ok (.iload_n 3, 1) := by decide +kernel
theorem d_law_142 : decode code 142 = .ok (.iconst (3), 1) := by decide +kernel
theorem d_law_143 : decode code 143 = .ok (.iadd, 1) := by decide +kernel
theorem d_law_144 : decode code 144 = .ok (.iaload, 1) := by decide +kernel
theorem d_law_145 : decode code 145 = .ok (.invokevirtual 18, 3) := by decide +kernel
theorem d_law_148 : decode code 148 = .ok (.aload_n 2, 1) := by decide +kernel
theorem d_law_149 : decode code 149 = .ok (.aload_n 0, 1) := by decide +kernel
theorem d_law_150 : decode code 150 = .ok (.iload_n 3, 1) := by decide +kernel
theorem d_law_151 : decode code 151 = .ok (.iconst (1), 1) := by decide +kernel
theorem d_law_152 : decode code 152 = .ok (.iadd, 1) := by decide +kernel
theorem d_law_153 : decode code 153 = .ok (.iaload, 1) := by decide +kernel
theorem d_law_154 : decode code 154 = .ok (.aload_n 0, 1) := by decide +kernel
theorem d_law_155 : decode code 155 = .ok (.iload_n 3, 1) := by decide +kernel
theorem d_law_156 : decode code 156 = .ok (.iconst (2), 1) := by decide +kernel
theorem d_law_157 : decode code 157 = .ok (.iadd, 1) := by decide +kernel
theorem d_law_158 : decode code 158 = .ok (.iaload, 1) := by decide +kernel
theorem d_law_159 : decode code 159 = .ok (.aload_n 0, 1) := by decide +kernel
theorem d_law_160 : decode code 160 = .ok (.iload_n 3, 1) := by decide +kernel
theorem d_law_161 : decode code 161 = .ok (.iconst (3), 1) := by decide +kernel
theorem d_law_162 : decode code 162 = .ok (.iadd, 1) := by decide +kernel
theorem d_law_163 : decode code 163 = .ok (.iaload, 1) := by decide +kernel
theorem d_law_164 : decode code 164 = .ok (.invokevirtual 22, 3) := by decide +kernel
theorem d_law_167 : decode code 167 = .ok (.if_icmp .eq (295), 3) := by decide +kernel
theorem d_law_170 : decode code 170 = .ok (.iconst (0), 1) := by decide +kernel
theorem d_law_171 : decode code 171 = .ok (.ireturn, 1) := by decide +kernel
theorem d_law_172 : decode code 172 = .ok (.aload_n 1, 1) := by decide +kernel
theorem d_law_173 : decode code 173 = .ok (.aload_n 0, 1) := by decide +kernel
theorem d_law_174 : decode code 174 = .ok (.iload_n 3, 1) := by decide +kernel
theorem d_law_175 : decode code 175 = .ok (.iconst (1), 1) := by decide +kernel
theorem d_law_176 : decode code 176 = .ok (.iadd, 1) := by decide +kernel
theorem d_law_177 : decode code 177 = .ok (.iaload, 1) := by decide +kernel
theorem d_law_178 : decode code 178 = .ok (.aload_n 0, 1) := by decide +kernel
theorem d_law_179 : decode code 179 = .ok (.iload_n 3, 1) := by decide +kernel
theorem d_law_180 : decode code 180 = .ok (.iconst (2), 1) := by decide +kernel
theorem d_law_181 : decode code 181 = .ok (.iadd, 1) := by decide +kernel
theorem d_law_182 : decode code 182 = .ok (.iaload, 1) := by decide +kernel
theorem d_law_183 : decode code 183 = .ok (.aload_n 0, 1) := by decide +kernel
theorem d_law_184 : decode code 184 = .ok (.iload_n 3, 1) := by decide +kernel
theorem d_law_185 : decode code 185 = .ok (.iconst (3), 1) := by decide +kernel
theorem d_law_186 : decode code 186 = .ok (.iadd, 1) := by decide +kernel
theorem d_law_187 : decode code 187 = .ok (.iaload, 1) := by decide +kernel
theorem d_law_188 : decode code 188 = .ok (.aload_n 0, 1) := by decide +kernel
theorem d_law_189 : decode code 189 = .ok (.iload_n 3, 1) := by decide +kernel
theorem d_law_190 : decode code 190 = .ok (.iconst (4), 1) := by decide +kernel
theorem d_law_191 : decode code 191 = .ok (.iadd, 1) := by decide +kernel
theorem d_law_192 : decode code 192 = .ok (.iaload, 1) := by decide +kernel
theorem d_law_193 : decode code 193 = .ok (.aload_n 0, 1) := by decide +kernel
theorem d_law_194 : decode code 194 = .ok (.iload_n 3, 1) := by decide +kernel
theorem d_law_195 : decode code 195 = .ok (.iconst (5), 1) := by decide +kernel
theorem d_law_196 : decode code 196 = .ok (.iadd, 1) := by decide +kernel
theorem d_law_197 : decode code 197 = .ok (.iaload, 1) := by decide +kernel
theorem d_law_198 : decode code 198 = .ok (.invokevirtual 23, 3) := by decide +kernel
theorem d_law_201 : decode code 201 = .ok (.aload_n 2, 1) := by decide +kernel
theorem d_law_202 : decode code 202 = .ok (.aload_n 0, 1) := by decide +kernel
theorem d_law_203 : decode code 203 = .ok (.iload_n 3, 1) := by decide +kernel
theorem d_law_204 : decode code 204 = .ok (.iconst (1), 1) := by decide +kernel
theorem d_law_205 : decode code 205 = .ok (.iadd, 1) := by decide +kernel
theorem d_law_206 : decode code 206 = .ok (.iaload, 1) := by decide +kernel
theorem d_law_207 : decode code 207 = .ok (.aload_n 0, 1) := by decide +kernel
theorem d_law_208 : decode code 208 = .ok (.iload_n 3, 1) := by decide +kernel
theorem d_law_209 : decode code 209 = .ok (.iconst (2), 1) := by decide +kernel
theorem d_law_210 : decode code 210 = .ok (.iadd, 1) := by decide +kernel
theorem d_law_211 : decode code 211 = .ok (.iaload, 1) := by decide +kernel
theorem d_law_212 : decode code 212 = .ok (.aload_n 0, 1) := by decide +kernel
theorem d_law_213 : decode code 213 = .ok (.iload_n 3, 1) := by decide +kernel
theorem d_law_214 : decode code 214 = .ok (.iconst (3), 1) := by decide +kernel
theorem d_law_215 : decode code 215 = .ok (.iadd, 1) := by decide +kernel
theorem d_law_216 : decode code 216 = .ok (.iaload, 1) := by decide +kernel
theorem d_law_217 : decode code 217 = .ok (.aload_n 0, 1) := by decide +kernel
theorem d_law_218 : decode code 218 = .ok (.iload_n 3, 1) := by decide +kernel
theorem d_law_219 : decode code 219 = .ok (.iconst (4), 1) := by decide +kernel
theorem d_law_220 : decode code 220 = .ok (.iadd, 1) := by decide +kernel
theorem d_law_221 : decode code 221 = .ok (.iaload, 1) := by decide +kernel
theorem d_law_222 : decode code 222 = .ok (.aload_n 0, 1) := by decide +kernel
theorem d_law_223 : decode code 223 = .ok (.iload_n 3, 1) := by decide +kernel
theorem d_law_224 : decode code 224 = .ok (.iconst (5), 1) := by decide +kernel
theorem d_law_225 : decode code 225 = .ok (.iadd, 1) := by decide +kernel
theorem d_law_226 : decode code 226 = .ok (.iaload, 1) := by decide +kernel
theorem d_law_227 : decode code 227 = .ok (.invokevirtual 27, 3) := by decide +kernel
theorem d_law_230 : decode code 230 = .ok (.if_icmp .eq (232), 3) := by decide +kernel
theorem d_law_233 : decode code 233 = .ok (.iconst (0), 1) := by decide +kernel
theorem d_law_234 : decode code 234 = .ok (.ireturn, 1) := by decide +kernel
theorem d_law_235 : decode code 235 = .ok (.aload_n 1, 1) := by decide +kernel
theorem d_law_236 : decode code 236 = .ok (.aload_n 0, 1) := by decide +kernel
theorem d_law_237 : decode code 237 = .ok (.iload_n 3, 1) := by decide +kernel
theorem d_law_238 : decode code 238 = .ok (.iconst (1), 1) := by decide +kernel
theorem d_law_239 : decode code 239 = .ok (.iadd, 1) := by decide +kernel
theorem d_law_240 : decode code 240 = .ok (.iaload, 1) := by decide +kernel
theorem d_law_241 : decode code 241 = .ok (.aload_n 0, 1) := by decide +kernel
theorem d_law_242 : decode code 242 = .ok (.iload_n 3, 1) := by decide +kernel
theorem d_law_243 : decode code 243 = .ok (.iconst (2), 1) := by decide +kernel
theorem d_law_244 : decode code 244 = .ok (.iadd, 1) := by decide +kernel
theorem d_law_245 : decode code 245 = .ok (.iaload, 1) := by decide +kernel
theorem d_law_246 : decode code 246 = .ok (.aload_n 0, 1) := by decide +kernel
theorem d_law_247 : decode code 247 = .ok (.iload_n 3, 1) := by decide +kernel
theorem d_law_248 : decode code 248 = .ok (.iconst (3), 1) := by decide +kernel
theorem d_law_249 : decode code 249 = .ok (.iadd, 1) := by decide +kernel
theorem d_law_250 : decode code 250 = .ok (.iaload, 1) := by decide +kernel
theorem d_law_251 : decode code 251 = .ok (.invokevirtual 28, 3) := by decide +kernel
theorem d_law_254 : decode code 254 = .ok (.aload_n 2, 1) := by decide +kernel
theorem d_law_255 : decode code 255 = .ok (.aload_n 0, 1) := by decide +kernel
theorem d_law_256 : decode code 256 = .ok (.iload_n 3, 1) := by decide +kernel
theorem d_law_257 : decode code 257 = .ok (.iconst (1), 1) := by decide +kernel
theorem d_law_258 : decode code 258 = .ok (.iadd, 1) := by decide +kernel
theorem d_law_259 : decode code 259 = .ok (.iaload, 1) := by decide +kernel
theorem d_law_260 : decode code 260 = .ok (.aload_n 0, 1) := by decide +kernel
theorem d_law_261 : decode code 261 = .ok (.iload_n 3, 1) := by decide +kernel
theorem d_law_262 : decode code 262 = .ok (.iconst (2), 1) := by decide +kernel
theorem d_law_263 : decode code 263 = .ok (.iadd, 1) := by decide +kernel
theorem d_law_264 : decode code 264 = .ok (.iaload, 1) := by decide +kernel
theorem d_law_265 : decode code 265 = .ok (.aload_n 0, 1) := by decide +kernel
theorem d_law_266 : decode code 266 = .ok (.iload_n 3, 1) := by decide +kernel
theorem d_law_267 : decode code 267 = .ok (.iconst (3), 1) := by decide +kernel
theorem d_law_268 : decode code 268 = .ok (.iadd, 1) := by decide +kernel
theorem d_law_269 : decode code 269 = .ok (.iaload, 1) := by decide +kernel
theorem d_law_270 : decode code 270 = .ok (.invokevirtual 31, 3) := by decide +kernel
theorem d_law_273 : decode code 273 = .ok (.if_icmp .eq (189), 3) := by decide +kernel
theorem d_law_276 : decode code 276 = .ok (.iconst (0), 1) := by decide +kernel
theorem d_law_277 : decode code 277 = .ok (.ireturn, 1) := by decide +kernel
theorem d_law_278 : decode code 278 = .ok (.aload_n 1, 1) := by decide +kernel
theorem d_law_279 : decode code 279 = .ok (.invokevirtual 32, 3) := by decide +kernel
theorem d_law_282 : decode code 282 = .ok (.aload_n 2, 1) := by decide +kernel
theorem d_law_283 : decode code 283 = .ok (.invokevirtual 36, 3) := by decide +kernel
theorem d_law_286 : decode code 286 = .ok (.if_icmp .eq (176), 3) := by decide +kernel
theorem d_law_289 : decode code 289 = .ok (.iconst (0), 1) := by decide +kernel
theorem d_law_290 : decode code 290 = .ok (.ireturn, 1) := by decide +kernel
theorem d_law_291 : decode code 291 = .ok (.aload_n 1, 1) := by decide +kernel
theorem d_law_292 : decode code 292 = .ok (.invokevirtual 37, 3) := by decide +kernel
theorem d_law_295 : decode code 295 = .ok (.aload_n 2, 1) := by decide +kernel
theorem d_law_296 : decode code 296 = .ok (.invokevirtual 40, 3) := by decide +kernel
theorem d_law_299 : decode code 299 = .ok (.goto (163), 3) := by decide +kernel
theorem d_law_302 : decode code 302 = .ok (.aload_n 1, 1) := by decide +kernel
theorem d_law_303 : decode code 303 = .ok (.aload_n 0, 1) := by decide +kernel
theorem d_law_304 : decode code 304 = .ok (.iload_n 3, 1) := by decide +kernel
theorem d_law_305 : decode code 305 = .ok (.iconst (1), 1) := by decide +kernel
theorem d_law_306 : decode code 306 = .ok (.iadd, 1) := by decide +kernel
theorem d_law_307 : decode code 307 = .ok (.iaload, 1) := by decide +kernel
theorem d_law_308 : decode code 308 = .ok (.aload_n 0, 1) := by decide +kernel
theorem d_law_309 : decode code 309 = .ok (.iload_n 3, 1) := by decide +kernel
theorem d_law_310 : decode code 310 = .ok (.iconst (2), 1) := by decide +kernel
theorem d_law_311 : decode code 311 = .ok (.iadd, 1) := by decide +kernel
theorem d_law_312 : decode code 312 = .ok (.iaload, 1) := by decide +kernel
theorem d_law_313 : decode code 313 = .ok (.invokevirtual 41, 3) := by decide +kernel
theorem d_law_316 : decode code 316 = .ok (.aload_n 2, 1) := by decide +kernel
theorem d_law_317 : decode code 317 = .ok (.aload_n 0, 1) := by decide +kernel
theorem d_law_318 : decode code 318 = .ok (.iload_n 3, 1) := by decide +kernel
theorem d_law_319 : decode code 319 = .ok (.iconst (1), 1) := by decide +kernel
theorem d_law_320 : decode code 320 = .ok (.iadd, 1) := by decide +kernel
theorem d_law_321 : decode code 321 = .ok (.iaload, 1) := by decide +kernel
theorem d_law_322 : decode code 322 = .ok (.aload_n 0, 1) := by decide +kernel
theorem d_law_323 : decode code 323 = .ok (.iload_n 3, 1) := by decide +kernel
theorem d_law_324 : decode code 324 = .ok (.iconst (2), 1) := by decide +kernel
theorem d_law_325 : decode code 325 = .ok (.iadd, 1) := by decide +kernel
theorem d_law_326 : decode code 326 = .ok (.iaload, 1) := by decide +kernel
theorem d_law_327 : decode code 327 = .ok (.invokevirtual 44, 3) := by decide +kernel
theorem d_law_330 : decode code 330 = .ok (.if_icmp .eq (132), 3) := by decide +kernel
theorem d_law_333 : decode code 333 = .ok (.iconst (0), 1) := by decide +kernel
theorem d_law_334 : decode code 334 = .ok (.ireturn, 1) := by decide +kernel
theorem d_law_335 : decode code 335 = .ok (.aload_n 1, 1) := by decide +kernel
theorem d_law_336 : decode code 336 = .ok (.aload_n 0, 1) := by decide +kernel
theorem d_law_337 : decode code 337 = .ok (.iload_n 3, 1) := by decide +kernel
theorem d_law_338 : decode code 338 = .ok (.iconst (1), 1) := by decide +kernel
theorem d_law_339 : decode code 339 = .ok (.iadd, 1) := by decide +kernel
theorem d_law_340 : decode code 340 = .ok (.iaload, 1) := by decide +kernel
theorem d_law_341 : decode code 341 = .ok (.aload_n 0, 1) := by decide +kernel
theorem d_law_342 : decode code 342 = .ok (.iload_n 3, 1) := by decide +kernel
theorem d_law_343 : decode code 343 = .ok (.iconst (2), 1) := by decide +kernel
theorem d_law_344 : decode code 344 = .ok (.iadd, 1) := by decide +kernel
theorem d_law_345 : decode code 345 = .ok (.iaload, 1) := by decide +kernel
theorem d_law_346 : decode code 346 = .ok (.aload_n 0, 1) := by decide +kernel
theorem d_law_347 : decode code 347 = .ok (.iload_n 3, 1) := by decide +kernel
theorem d_law_348 : decode code 348 = .ok (.iconst (3), 1) := by decide +kernel
theorem d_law_349 : decode code 349 = .ok (.iadd, 1) := by decide +kernel
theorem d_law_350 : decode code 350 = .ok (.iaload, 1) := by decide +kernel
theorem d_law_351 : decode code 351 = .ok (.invokevirtual 45, 3) := by decide +kernel
theorem d_law_354 : decode code 354 = .ok (.aload_n 2, 1) := by decide +kernel
theorem d_law_355 : decode code 355 = .ok (.aload_n 0, 1) := by decide +kernel
theorem d_law_356 : decode code 356 = .ok (.iload_n 3, 1) := by decide +kernel
theorem d_law_357 : decode code 357 = .ok (.iconst (1), 1) := by decide +kernel
theorem d_law_358 : decode code 358 = .ok (.iadd, 1) := by decide +kernel
theorem d_law_359 : decode code 359 = .ok (.iaload, 1) := by decide +kernel
theorem d_law_360 : decode code 360 = .ok (.aload_n 0, 1) := by decide +kernel
theorem d_law_361 : decode code 361 = .ok (.iload_n 3, 1) := by decide +kernel
theorem d_law_362 : decode code 362 = .ok (.iconst (2), 1) := by decide +kernel
theorem d_law_363 : decode code 363 = .ok (.iadd, 1) := by decide +kernel
theorem d_law_364 : decode code 364 = .ok (.iaload, 1) := by decide +kernel
theorem d_law_365 : decode code 365 = .ok (.aload_n 0, 1) := by decide +kernel
theorem d_law_366 : decode code 366 = .ok (.iload_n 3, 1) := by decide +kernel
theorem d_law_367 : decode code 367 = .ok (.iconst (3), 1) := by decide +kernel
theorem d_law_368 : decode code 368 = .ok (.iadd, 1) := by decide +kernel
theorem d_law_369 : decode code 369 = .ok (.iaload, 1) := by decide +kernel
theorem d_law_370 : decode code 370 = .ok (.invokevirtual 49, 3) := by decide +kernel
theorem d_law_373 : decode code 373 = .ok (.lcmp, 1) := by decide +kernel
theorem d_law_374 : decode code 374 = .ok (.ifCond .eq (88), 3) := by decide +kernel
theorem d_law_377 : decode code 377 = .ok (.iconst (0), 1) := by decide +kernel
theorem d_law_378 : decode code 378 = .ok (.ireturn, 1) := by decide +kernel
theorem d_law_379 : decode code 379 = .ok (.aload_n 1, 1) := by decide +kernel
theorem d_law_380 : decode code 380 = .ok (.aload_n 0, 1) := by decide +kernel
theorem d_law_381 : decode code 381 = .ok (.iload_n 3, 1) := by decide +kernel
theorem d_law_382 : decode code 382 = .ok (.iconst (1), 1) := by decide +kernel
theorem d_law_383 : decode code 383 = .ok (.iadd, 1) := by decide +kernel
theorem d_law_384 : decode code 384 = .ok (.iaload, 1) := by decide +kernel
theorem d_law_385 : decode code 385 = .ok (.aload_n 0, 1) := by decide +kernel
theorem d_law_386 : decode code 386 = .ok (.iload_n 3, 1) := by decide +kernel
theorem d_law_387 : decode code 387 = .ok (.iconst (2), 1) := by decide +kernel
theorem d_law_388 : decode code 388 = .ok (.iadd, 1) := by decide +kernel
theorem d_law_389 : decode code 389 = .ok (.iaload, 1) := by decide +kernel
theorem d_law_390 : decode code 390 = .ok (.invokevirtual 50, 3) := by decide +kernel
theorem d_law_393 : decode code 393 = .ok (.aload_n 2, 1) := by decide +kernel
theorem d_law_394 : decode code 394 = .ok (.aload_n 0, 1) := by decide +kernel
theorem d_law_395 : decode code 395 = .ok (.iload_n 3, 1) := by decide +kernel
theorem d_law_396 : decode code 396 = .ok (.iconst (1), 1) := by decide +kernel
theorem d_law_397 : decode code 397 = .ok (.iadd, 1) := by decide +kernel
theorem d_law_398 : decode code 398 = .ok (.iaload, 1) := by decide +kernel
theorem d_law_399 : decode code 399 = .ok (.aload_n 0, 1) := by decide +kernel
theorem d_law_400 : decode code 400 = .ok (.iload_n 3, 1) := by decide +kernel
theorem d_law_401 : decode code 401 = .ok (.iconst (2), 1) := by decide +kernel
theorem d_law_402 : decode code 402 = .ok (.iadd, 1) := by decide +kernel
theorem d_law_403 : decode code 403 = .ok (.iaload, 1) := by decide +kernel
theorem d_law_404 : decode code 404 = .ok (.invokevirtual 54, 3) := by decide +kernel
theorem d_law_407 : decode code 407 = .ok (.lcmp, 1) := by decide +kernel
theorem d_law_408 : decode code 408 = .ok (.ifCond .eq (54), 3) := by decide +kernel
theorem d_law_411 : decode code 411 = .ok (.iconst (0), 1) := by decide +kernel
theorem d_law_412 : decode code 412 = .ok (.ireturn, 1) := by decide +kernel
theorem d_law_413 : decode code 413 = .ok (.aload_n 1, 1) := by decide +kernel
theorem d_law_414 : decode code 414 = .ok (.aload_n 0, 1) := by decide +kernel
theorem d_law_415 : decode code 415 = .ok (.iload_n 3, 1) := by decide +kernel
theorem d_law_416 : decode code 416 = .ok (.iconst (1), 1) := by decide +kernel
theorem d_law_417 : decode code 417 = .ok (.iadd, 1) := by decide +kernel
theorem d_law_418 : decode code 418 = .ok (.iaload, 1) := by decide +kernel
theorem d_law_419 : decode code 419 = .ok (.invokevirtual 55, 3) := by decide +kernel
theorem d_law_422 : decode code 422 = .ok (.aload_n 2, 1) := by decide +kernel
theorem d_law_423 : decode code 423 = .ok (.aload_n 0, 1) := by decide +kernel
theorem d_law_424 : decode code 424 = .ok (.iload_n 3, 1) := by decide +kernel
theorem d_law_425 : decode code 425 = .ok (.iconst (1), 1) := by decide +kernel
theorem d_law_426 : decode code 426 = .ok (.iadd, 1) := by decide +kernel
theorem d_law_427 : decode code 427 = .ok (.iaload, 1) := by decide +kernel
theorem d_law_428 : decode code 428 = .ok (.invokevirtual 59, 3) := by decide +kernel
theorem d_law_431 : decode code 431 = .ok (.if_icmp .eq (31), 3) := by decide +kernel
theorem d_law_434 : decode code 434 = .ok (.iconst (0), 1) := by decide +kernel
theorem d_law_435 : decode code 435 = .ok (.ireturn, 1) := by decide +kernel
theorem d_law_436 : decode code 436 = .ok (.aload_n 1, 1) := by decide +kernel
theorem d_law_437 : decode code 437 = .ok (.invokevirtual 60, 3) := by decide +kernel
theorem d_law_440 : decode code 440 = .ok (.aload_n 2, 1) := by decide +kernel
theorem d_law_441 : decode code 441 = .ok (.invokevirtual 63, 3) := by decide +kernel
theorem d_law_444 : decode code 444 = .ok (.if_icmp .eq (18), 3) := by decide +kernel
theorem d_law_447 : decode code 447 = .ok (.iconst (0), 1) := by decide +kernel
theorem d_law_448 : decode code 448 = .ok (.ireturn, 1) := by decide +kernel
theorem d_law_449 : decode code 449 = .ok (.aload_n 1, 1) := by decide +kernel
theorem d_law_450 : decode code 450 = .ok (.invokevirtual 64, 3) := by decide +kernel
theorem d_law_453 : decode code 453 = .ok (.aload_n 2, 1) := by decide +kernel
theorem d_law_454 : decode code 454 = .ok (.invokevirtual 67, 3) := by decide +kernel
theorem d_law_457 : decode code 457 = .ok (.if_icmp .eq (5), 3) := by decide +kernel
theorem d_law_460 : decode code 460 = .ok (.iconst (0), 1) := by decide +kernel
theorem d_law_461 : decode code 461 = .ok (.ireturn, 1) := by decide +kernel
theorem d_law_462 : decode code 462 = .ok (.iinc 3 (6), 3) := by decide +kernel
theorem d_law_465 : decode code 465 = .ok (.goto (-447), 3) := by decide +kernel
theorem d_law_468 : decode code 468 = .ok (.iconst (1), 1) := by decide +kernel
theorem d_law_469 : decode code 469 = .ok (.ireturn, 1) := by decide +kernel
def fx_law_b462 (na : Nat) (xs : Nat → Int32) (k18 : tx_St → Int32 → Option tx_St) (σ : tx_St) (x3 : Int32) : Option tx_St := k18 σ (x3 + (6 : Int32))
def fx_law_b18 (na : Nat) (xs : Nat → Int32) : Nat → tx_St → Int32 → Option tx_St
  | 0, _, _ => none
  | n + 1, σ, x3 => (if ((Int32.ofNat na) - (6 : Int32)) < x3 then some σ else tx_rs xs na x3 fun v2 => (if (v2 &&& (15 : Int32)) = (0 : Int32) then tx_rs xs na (x3 + (1 : Int32)) fun v4 => tx_rs xs na (x3 + (2 : Int32)) fun v5 => tx_ci (fx_X_addClass σ v4 v5) fun r7 σ6 => tx_rs xs na (x3 + (1 : Int32)) fun v8 => tx_rs xs na (x3 + (2 : Int32)) fun v9 => tx_ci (fx_Mo_addClass σ6 v8 v9) fun r11 σ10 => (if r7 = r11 then fx_law_b462 na xs (fx_law_b18 na xs n) σ10 x3 else none) else (if (v2 &&& (15 : Int32)) = (1 : Int32) then tx_rs xs na (x3 + (1 : Int32)) fun v14 => tx_rs xs na (x3 + (2 : Int32)) fun v15 => tx_rs xs na (x3 + (3 : Int32)) fun v16 => tx_ci (fx_X_addField σ v14 v15 v16) fun r18 σ17 => tx_rs xs na (x3 + (1 : Int32)) fun v19 => tx_rs xs na (x3 + (2 : Int32)) fun v20 => tx_rs xs na (x3 + (3 : Int32)) fun v21 => tx_ci (fx_Mo_addField σ17 v19 v20 v21) fun r23 σ22 => (if r18 = r23 then fx_law_b462 na xs (fx_law_b18 na xs n) σ22 x3 else none) else (if (v2 &&& (15 : Int32)) = (2 : Int32) then tx_rs xs na (x3 + (1 : Int32)) fun v26 => tx_rs xs na (x3 + (2 : Int32)) fun v27 => tx_rs xs na (x3 + (3 : Int32)) fun v28 => tx_rs xs na (x3 + (4 : Int32)) fun v29 => tx_rs xs na (x3 + (5 : Int32)) fun v30 => tx_ci (fx_X_addMethod σ v26 v27 v28 v29 v30) fun r32 σ31 => tx_rs xs na (x3 + (1 : Int32)) fun v33 => tx_rs xs na (x3 + (2 : Int32)) fun v34 => tx_rs xs na (x3 + (3 : Int32)) fun v35 => tx_rs xs na (x3 + (4 : Int32)) fun v36 => tx_rs xs na (x3 + (5 : Int32)) fun v37 => tx_ci (fx_Mo_addMethod σ31 v33 v34 v35 v36 v37) fun r39 σ38 => (if r32 = r39 then fx_law_b462 na xs (fx_law_b18 na xs n) σ38 x3 else none) else (if (v2 &&& (15 : Int32)) = (3 : Int32) then tx_rs xs na (x3 + (1 : Int32)) fun v42 => tx_rs xs na (x3 + (2 : Int32)) fun v43 => tx_rs xs na (x3 + (3 : Int32)) fun v44 => tx_ci (fx_X_emit σ v42 v43 v44) fun r46 σ45 => tx_rs xs na (x3 + (1 : Int32)) fun v47 => tx_rs xs na (x3 + (2 : Int32)) fun v48 => tx_rs xs na (x3 + (3 : Int32)) fun v49 => tx_ci (fx_Mo_emit σ45 v47 v48 v49) fun r51 σ50 => (if r46 = r51 then fx_law_b462 na xs (fx_law_b18 na xs n) σ50 x3 else none) else (if (v2 &&& (15 : Int32)) = (4 : Int32) then tx_ci (fx_X_check σ) fun r55 σ54 => tx_ci (fx_Mo_check σ54) fun r57 σ56 => (if r55 = r57 then fx_law_b462 na xs (fx_law_b18 na xs n) σ56 x3 else none) else (if (v2 &&& (15 : Int32)) = (5 : Int32) then tx_cv (fx_X_clear σ) fun σ60 => tx_cv (fx_Mo_clear σ60) fun σ61 => fx_law_b462 na xs (fx_law_b18 na xs n) σ61 x3 else (if (v2 &&& (15 : Int32)) = (6 : Int32) then tx_rs xs na (x3 + (1 : Int32)) fun v63 => tx_rs xs na (x3 + (2 : Int32)) fun v64 => tx_ci (fx_X_typesAt σ v63 v64) fun r66 σ65 => tx_rs xs na (x3 + (1 : Int32)) fun v67 => tx_rs xs na (x3 + (2 : Int32)) fun v68 => tx_ci (fx_Mo_typesAt σ65 v67 v68) fun r70 σ69 => (if r66 = r70 then fx_law_b462 na xs (fx_law_b18 na xs n) σ69 x3 else none) else (if (v2 &&& (15 : Int32)) = (7 : Int32) then tx_rs xs na (x3 + (1 : Int32)) fun v73 => tx_rs xs na (x3 + (2 : Int32)) fun v74 => tx_rs xs na (x3 + (3 : Int32)) fun v75 => tx_cl8 (fx_X_run σ v73 v74 v75) fun r77 σ76 => tx_rs xs na (x3 + (1 : Int32)) fun v78 => tx_rs xs na (x3 + (2 : Int32)) fun v79 => tx_rs xs na (x3 + (3 : Int32)) fun v80 => tx_cl8 (fx_Mo_run σ76 v78 v79 v80) fun r82 σ81 => (if (lg_cmp r77 r82) = 0 then fx_law_b462 na xs (fx_law_b18 na xs n) σ81 x3 else none) else (if (v2 &&& (15 : Int32)) = (8 : Int32) then tx_rs xs na (x3 + (1 : Int32)) fun v85 => tx_rs xs na (x3 + (2 : Int32)) fun v86 => tx_cl8 (fx_X_look σ v85 v86) fun r88 σ87 => tx_rs xs na (x3 + (1 : Int32)) fun v89 => tx_rs xs na (x3 + (2 : Int32)) fun v90 => tx_cl8 (fx_Mo_look σ87 v89 v90) fun r92 σ91 => (if (lg_cmp r88 r92) = 0 then fx_law_b462 na xs (fx_law_b18 na xs n) σ91 x3 else none) else (if (v2 &&& (15 : Int32)) = (9 : Int32) then tx_rs xs na (x3 + (1 : Int32)) fun v95 => tx_ci (fx_X_held σ v95) fun r97 σ96 => tx_rs xs na (x3 + (1 : Int32)) fun v98 => tx_ci (fx_Mo_held σ96 v98) fun r100 σ99 => (if r97 = r100 then fx_law_b462 na xs (fx_law_b18 na xs n) σ99 x3 else none) else (if (v2 &&& (15 : Int32)) = (10 : Int32) then tx_ci (fx_X_runs σ) fun r104 σ103 => tx_ci (fx_Mo_runs σ103) fun r106 σ105 => (if r104 = r106 then fx_law_b462 na xs (fx_law_b18 na xs n) σ105 x3 else none) else (if (v2 &&& (15 : Int32)) = (11 : Int32) then tx_ci (fx_X_steps σ) fun r110 σ109 => tx_ci (fx_Mo_steps σ109) fun r112 σ111 => (if r110 = r112 then fx_law_b462 na xs (fx_law_b18 na xs n) σ111 x3 else none) else fx_law_b462 na xs (fx_law_b18 na xs n) σ x3)))))))))))))
def fx_law (na : Nat) (xs : Nat → Int32) (σ : tx_St) : Option tx_St := fx_law_b18 na xs  600 σ (0 : Int32)
set_option maxRecDepth 100000 in
set_option maxHeartbeats 4000000 in
theorem fx_law_b462_w {l : Launch} {E : tx_E} {b : Nat} (na : Nat) (xs : Nat → Int32) (k18 : tx_St → Int32 → Option tx_St) (j18 : ∀ (σ : tx_St) (x3 : Int32) (t : tx_St), k18 σ x3 = some t → gl l E b na xs σ [(0, .ref b), (1, .ref (E.1 0)), (2, .ref (E.1 45)), (3, .int x3)] 18 []) (σ : tx_St) (x3 : Int32) (t : tx_St) (hT : fx_law_b462 na xs k18 σ x3 = some t) : gl l E b na xs σ [(0, .ref b), (1, .ref (E.1 0)), (2, .ref (E.1 45)), (3, .int x3)] 462 [] := by
  unfold fx_law_b462 at hT
  refine gl_iinc (pc := 462) (x3 + (6 : Int32)) 3 [(3, .int (x3 + (6 : Int32))), (0, .ref b), (1, .ref (E.1 0)), (2, .ref (E.1 45))] d_law_462 rfl (tx_inc (by decide)) (Nat.le_of_ble_eq_true rfl) rfl ?_
  refine gl_goto (pc := 465) 18 d_law_465 rfl ?_
  refine gl_sub [1, 2, 3, 0] rfl ?_
  exact j18 σ (x3 + (6 : Int32)) _ hT
set_option maxRecDepth 100000 in
set_option maxHeartbeats 4000000 in
theorem fx_law_b18_w {l : Launch} {E : tx_E} {b : Nat} (na : Nat) (xs : Nat → Int32) : ∀ (n : Nat) (σ : tx_St) (x3 : Int32) (t : tx_St), fx_law_b18 na xs n σ x3 = some t → gl l E b na xs σ [(0, .ref b), (1, .ref (E.1 0)), (2, .ref (E.1 45)), (3, .int x3)] 18 [] := by
  intro n
  induction n with
  | zero => intro σ x3 t hT; cases hT
  | succ n ih =>
    intro σ x3 t hT
    rw [fx_law_b18] at hT
    refine gl_iload_n (pc := 18) 3 d_law_18 rfl rfl ?_
    refine gl_aload_n (pc := 19) 0 d_law_19 rfl rfl ?_
    refine gl_slen (pc := 20) d_law_20 ?_
    refine gl_bipush (pc := 21) (6 : Int32) d_law_21 (by decide) ?_
    refine gl_isub (pc := 23) d_law_23 ?_
    refine gl_icmp_gt (pc := 24) 468 d_law_24 rfl (fun h1 => ?_) (fun h1 => ?_)
    · have hT := tx_ifp h1 hT
      refine gl_iconst (pc := 468) (1 : Int32) d_law_468 (by decide) ?_
      exact gl_ret1 (pc := 469) d_law_469
    · have hT := tx_ifn h1 hT
      refine gl_aload_n (pc := 27) 0 d_law_27 rfl rfl ?_
      refine gl_iload_n (pc := 28) 3 d_law_28 rfl rfl ?_
      obtain ⟨v2, gv2, iv2, hT⟩ := tx_rs_some hT
      refine gl_sld (pc := 29) v2 d_law_29 iv2 gv2 ?_
      refine gl_bipush (pc := 30) (15 : Int32) d_law_30 (by decide) ?_
      refine gl_iand (pc := 32) d_law_32 ?_
      by_cases h3 : (v2 &&& (15 : Int32)) = (0 : Int32)
      · have hT := tx_ifp h3 hT
        refine gl_tabIn (pc := 33) 96 d_law_33 (by rw [h3]; decide) (by rw [h3]; decide) (by rw [h3]; rfl) rfl ?_
        refine gl_aload_n (pc := 96) 1 d_law_96 rfl rfl ?_
        refine gl_aload_n (pc := 97) 0 d_law_97 rfl rfl ?_
        refine gl_iload_n (pc := 98) 3 d_law_98 rfl rfl ?_
        refine gl_iconst (pc := 99) (1 : Int32) d_law_99 (by decide) ?_
        refine gl_iadd (pc := 100) d_law_100 ?_
        obtain ⟨v4, gv4, iv4, hT⟩ := tx_rs_some hT
        refine gl_sld (pc := 101) v4 d_law_101 iv4 gv4 ?_
        refine gl_aload_n (pc := 102) 0 d_law_102 rfl rfl ?_
        refine gl_iload_n (pc := 103) 3 d_law_103 rfl rfl ?_
        refine gl_iconst (pc := 104) (2 : Int32) d_law_104 (by decide) ?_
        refine gl_iadd (pc := 105) d_law_105 ?_
        obtain ⟨v5, gv5, iv5, hT⟩ := tx_rs_some hT
        refine gl_sld (pc := 106) v5 d_law_106 iv5 gv5 ?_
        obtain ⟨r7, σ6, cσ6, hT⟩ := tx_ci_some hT
        refine gl_callV (pc := 107) (As := [.int v4, .int v5]) (rest := []) cm_X_addClass lk_law_13 (fx_X_addClass_c l E σ v4 v5 _ cσ6) (rfl) (by decide) rfl rfl tl_fi_X_addClass (Nat.le_of_ble_eq_true rfl) d_law_107 ?_
        change gl l E b na xs σ6 [(0, .ref b), (1, .ref (E.1 0)), (2, .ref (E.1 45)), (3, .int x3)] 110 [.int r7]
        refine gl_aload_n (pc := 110) 2 d_law_110 rfl rfl ?_
        refine gl_aload_n (pc := 111) 0 d_law_111 rfl rfl ?_
        refine gl_iload_n (pc := 112) 3 d_law_112 rfl rfl ?_
        refine gl_iconst (pc := 113) (1 : Int32) d_law_113 (by decide) ?_
        refine gl_iadd (pc := 114) d_law_114 ?_
        obtain ⟨v8, gv8, iv8, hT⟩ := tx_rs_some hT
        refine gl_sld (pc := 115) v8 d_law_115 iv8 gv8 ?_
        refine gl_aload_n (pc := 116) 0 d_law_116 rfl rfl ?_
        refine gl_iload_n (pc := 117) 3 d_law_117 rfl rfl ?_
        refine gl_iconst (pc := 118) (2 : Int32) d_law_118 (by decide) ?_
        refine gl_iadd (pc := 119) d_law_119 ?_
        obtain ⟨v9, gv9, iv9, hT⟩ := tx_rs_some hT
        refine gl_sld (pc := 120) v9 d_law_120 iv9 gv9 ?_
        obtain ⟨r11, σ10, cσ10, hT⟩ := tx_ci_some hT
        refine gl_callV (pc := 121) (As := [.int v8, .int v9]) (rest := [.int r7]) cm_Mo_addClass lk_law_17 (fx_Mo_addClass_c l E σ6 v8 v9 _ cσ10) (rfl) (by decide) rfl rfl tl_fi_Mo_addClass (Nat.le_of_ble_eq_true rfl) d_law_121 ?_
        change gl l E b na xs σ10 [(0, .ref b), (1, .ref (E.1 0)), (2, .ref (E.1 45)), (3, .int x3)] 124 [.int r11, .int r7]
        refine gl_icmp_eq (pc := 124) 462 d_law_124 rfl (fun h12 => ?_) (fun h12 => ?_)
        · have hT := tx_ifp h12 hT
          exact fx_law_b462_w na xs (fx_law_b18 na xs n) (ih) σ10 x3 _ hT
        · have hT := tx_ifn h12 hT
          refine gl_iconst (pc := 127) (0 : Int32) d_law_127 (by decide) ?_
          cases hT
      · have hT := tx_ifn h3 hT
        by_cases h13 : (v2 &&& (15 : Int32)) = (1 : Int32)
        · have hT := tx_ifp h13 hT
          refine gl_tabIn (pc := 33) 129 d_law_33 (by rw [h13]; decide) (by rw [h13]; decide) (by rw [h13]; rfl) rfl ?_
          refine gl_aload_n (pc := 129) 1 d_law_129 rfl rfl ?_
          refine gl_aload_n (pc := 130) 0 d_law_130 rfl rfl ?_
          refine gl_iload_n (pc := 131) 3 d_law_131 rfl rfl ?_
          refine gl_iconst (pc := 132) (1 : Int32) d_law_132 (by decide) ?_
          refine gl_iadd (pc := 133) d_law_133 ?_
          obtain ⟨v14, gv14, iv14, hT⟩ := tx_rs_some hT
          refine gl_sld (pc := 134) v14 d_law_134 iv14 gv14 ?_
          refine gl_aload_n (pc := 135) 0 d_law_135 rfl rfl ?_
          refine gl_iload_n (pc := 136) 3 d_law_136 rfl rfl ?_
          refine gl_iconst (pc := 137) (2 : Int32) d_law_137 (by decide) ?_
          refine gl_iadd (pc := 138) d_law_138 ?_
          obtain ⟨v15, gv15, iv15, hT⟩ := tx_rs_some hT
          refine gl_sld (pc := 139) v15 d_law_139 iv15 gv15 ?_
          refine gl_aload_n (pc := 140) 0 d_law_140 rfl rfl ?_
          refine gl_iload_n (pc := 141) 3 d_law_141 rfl rfl ?_
          refine gl_iconst (pc := 142) (3 : Int32) d_law_142 (by decide) ?_
          refine gl_iadd (pc := 143) d_law_143 ?_
          obtain ⟨v16, gv16, iv16, hT⟩ := tx_rs_some hT
          refine gl_sld (pc := 144) v16 d_law_144 iv16 gv16 ?_
          obtain ⟨r18, σ17, cσ17, hT⟩ := tx_ci_some hT
          refine gl_callV (pc := 145) (As := [.int v14, .int v15, .int v16]) (rest := []) cm_X_addField lk_law_18 (fx_X_addField_c l E σ v14 v15 v16 _ cσ17) (rfl) (by decide) rfl rfl tl_fi_X_addField (Nat.le_of_ble_eq_true rfl) d_law_145 ?_
          change gl l E b na xs σ17 [(0, .ref b), (1, .ref (E.1 0)), (2, .ref (E.1 45)), (3, .int x3)] 148 [.int r18]
          refine gl_aload_n (pc := 148) 2 d_law_148 rfl rfl ?_
          refine gl_aload_n (pc := 149) 0 d_law_149 rfl rfl ?_
          refine gl_iload_n (pc := 150) 3 d_law_150 rfl rfl ?_
          refine gl_iconst (pc := 151) (1 : Int32) d_law_151 (by decide) ?_
          refine gl_iadd (pc := 152) d_law_152 ?_
          obtain ⟨v19, gv19, iv19, hT⟩ := tx_rs_some hT
          refine gl_sld (pc := 153) v19 d_law_153 iv19 gv19 ?_
          refine gl_aload_n (pc := 154) 0 d_law_154 rfl rfl ?_
          refine gl_iload_n (pc := 155) 3 d_law_155 rfl rfl ?_
          refine gl_iconst (pc := 156) (2 : Int32) d_law_156 (by decide) ?_
          refine gl_iadd (pc := 157) d_law_157 ?_
          obtain ⟨v20, gv20, iv20, hT⟩ := tx_rs_some hT
          refine gl_sld (pc := 158) v20 d_law_158 iv20 gv20 ?_
          refine gl_aload_n (pc := 159) 0 d_law_159 rfl rfl ?_
          refine gl_iload_n (pc := 160) 3 d_law_160 rfl rfl ?_
          refine gl_iconst (pc := 161) (3 : Int32) d_law_161 (by decide) ?_
          refine gl_iadd (pc := 162) d_law_162 ?_
          obtain ⟨v21, gv21, iv21, hT⟩ := tx_rs_some hT
          refine gl_sld (pc := 163) v21 d_law_163 iv21 gv21 ?_
          obtain ⟨r23, σ22, cσ22, hT⟩ := tx_ci_some hT
          refine gl_callV (pc := 164) (As := [.int v19, .int v20, .int v21]) (rest := [.int r18]) cm_Mo_addField lk_law_22 (fx_Mo_addField_c l E σ17 v19 v20 v21 _ cσ22) (rfl) (by decide) rfl rfl tl_fi_Mo_addField (Nat.le_of_ble_eq_true rfl) d_law_164 ?_
          change gl l E b na xs σ22 [(0, .ref b), (1, .ref (E.1 0)), (2, .ref (E.1 45)), (3, .int x3)] 167 [.int r23, .int r18]
          refine gl_icmp_eq (pc := 167) 462 d_law_167 rfl (fun h24 => ?_) (fun h24 => ?_)
          · have hT := tx_ifp h24 hT
            exact fx_law_b462_w na xs (fx_law_b18 na xs n) (ih) σ22 x3 _ hT
          · have hT := tx_ifn h24 hT
            refine gl_iconst (pc := 170) (0 : Int32) d_law_170 (by decide) ?_
            cases hT
        · have hT := tx_ifn h13 hT
          by_cases h25 : (v2 &&& (15 : Int32)) = (2 : Int32)
          · have hT := tx_ifp h25 hT
            refine gl_tabIn (pc := 33) 172 d_law_33 (by rw [h25]; decide) (by rw [h25]; decide) (by rw [h25]; rfl) rfl ?_
            refine gl_aload_n (pc := 172) 1 d_law_172 rfl rfl ?_
            refine gl_aload_n (pc := 173) 0 d_law_173 rfl rfl ?_
            refine gl_iload_n (pc := 174) 3 d_law_174 rfl rfl ?_
            refine gl_iconst (pc := 175) (1 : Int32) d_law_175 (by decide) ?_
            refine gl_iadd (pc := 176) d_law_176 ?_
            obtain ⟨v26, gv26, iv26, hT⟩ := tx_rs_some hT
            refine gl_sld (pc := 177) v26 d_law_177 iv26 gv26 ?_
            refine gl_aload_n (pc := 178) 0 d_law_178 rfl rfl ?_
            refine gl_iload_n (pc := 179) 3 d_law_179 rfl rfl ?_
            refine gl_iconst (pc := 180) (2 : Int32) d_law_180 (by decide) ?_
            refine gl_iadd (pc := 181) d_law_181 ?_
            obtain ⟨v27, gv27, iv27, hT⟩ := tx_rs_some hT
            refine gl_sld (pc := 182) v27 d_law_182 iv27 gv27 ?_
            refine gl_aload_n (pc := 183) 0 d_law_183 rfl rfl ?_
            refine gl_iload_n (pc := 184) 3 d_law_184 rfl rfl ?_
            refine gl_iconst (pc := 185) (3 : Int32) d_law_185 (by decide) ?_
            refine gl_iadd (pc := 186) d_law_186 ?_
            obtain ⟨v28, gv28, iv28, hT⟩ := tx_rs_some hT
            refine gl_sld (pc := 187) v28 d_law_187 iv28 gv28 ?_
            refine gl_aload_n (pc := 188) 0 d_law_188 rfl rfl ?_
            refine gl_iload_n (pc := 189) 3 d_law_189 rfl rfl ?_
            refine gl_iconst (pc := 190) (4 : Int32) d_law_190 (by decide) ?_
            refine gl_iadd (pc := 191) d_law_191 ?_
            obtain ⟨v29, gv29, iv29, hT⟩ := tx_rs_some hT
            refine gl_sld (pc := 192) v29 d_law_192 iv29 gv29 ?_
            refine gl_aload_n (pc := 193) 0 d_law_193 rfl rfl ?_
            refine gl_iload_n (pc := 194) 3 d_law_194 rfl rfl ?_
            refine gl_iconst (pc := 195) (5 : Int32) d_law_195 (by decide) ?_
            refine gl_iadd (pc := 196) d_law_196 ?_
            obtain ⟨v30, gv30, iv30, hT⟩ := tx_rs_some hT
            refine gl_sld (pc := 197) v30 d_law_197 iv30 gv30 ?_
            obtain ⟨r32, σ31, cσ31, hT⟩ := tx_ci_some hT
            refine gl_callV (pc := 198) (As := [.int v26, .int v27, .int v28, .int v29, .int v30]) (rest := []) cm_X_addMethod lk_law_23 (fx_X_addMethod_c l E σ v26 v27 v28 v29 v30 _ cσ31) (rfl) (by decide) rfl rfl tl_fi_X_addMethod (Nat.le_of_ble_eq_true rfl) d_law_198 ?_
            change gl l E b na xs σ31 [(0, .ref b), (1, .ref (E.1 0)), (2, .ref (E.1 45)), (3, .int x3)] 201 [.int r32]
            refine gl_aload_n (pc := 201) 2 d_law_201 rfl rfl ?_
            refine gl_aload_n (pc := 202) 0 d_law_202 rfl rfl ?_
            refine gl_iload_n (pc := 203) 3 d_law_203 rfl rfl ?_
            refine gl_iconst (pc := 204) (1 : Int32) d_law_204 (by decide) ?_
            refine gl_iadd (pc := 205) d_law_205 ?_
            obtain ⟨v33, gv33, iv33, hT⟩ := tx_rs_some hT
            refine gl_sld (pc := 206) v33 d_law_206 iv33 gv33 ?_
            refine gl_aload_n (pc := 207) 0 d_law_207 rfl rfl ?_
            refine gl_iload_n (pc := 208) 3 d_law_208 rfl rfl ?_
            refine gl_iconst (pc := 209) (2 : Int32) d_law_209 (by decide) ?_
            refine gl_iadd (pc := 210) d_law_210 ?_
            obtain ⟨v34, gv34, iv34, hT⟩ := tx_rs_some hT
            refine gl_sld (pc := 211) v34 d_law_211 iv34 gv34 ?_
            refine gl_aload_n (pc := 212) 0 d_law_212 rfl rfl ?_
            refine gl_iload_n (pc := 213) 3 d_law_213 rfl rfl ?_
            refine gl_iconst (pc := 214) (3 : Int32) d_law_214 (by decide) ?_
            refine gl_iadd (pc := 215) d_law_215 ?_
            obtain ⟨v35, gv35, iv35, hT⟩ := tx_rs_some hT
            refine gl_sld (pc := 216) v35 d_law_216 iv35 gv35 ?_
            refine gl_aload_n (pc := 217) 0 d_law_217 rfl rfl ?_
            refine gl_iload_n (pc := 218) 3 d_law_218 rfl rfl ?_
            refine gl_iconst (pc := 219) (4 : Int32) d_law_219 (by decide) ?_
            refine gl_iadd (pc := 220) d_law_220 ?_
            obtain ⟨v36, gv36, iv36, hT⟩ := tx_rs_some hT
            refine gl_sld (pc := 221) v36 d_law_221 iv36 gv36 ?_
            refine gl_aload_n (pc := 222) 0 d_law_222 rfl rfl ?_
            refine gl_iload_n (pc := 223) 3 d_law_223 rfl rfl ?_
            refine gl_iconst (pc := 224) (5 : Int32) d_law_224 (by decide) ?_
            refine gl_iadd (pc := 225) d_law_225 ?_
            obtain ⟨v37, gv37, iv37, hT⟩ := tx_rs_some hT
            refine gl_sld (pc := 226) v37 d_law_226 iv37 gv37 ?_
            obtain ⟨r39, σ38, cσ38, hT⟩ := tx_ci_some hT
            refine gl_callV (pc := 227) (As := [.int v33, .int v34, .int v35, .int v36, .int v37]) (rest := [.int r32]) cm_Mo_addMethod lk_law_27 (fx_Mo_addMethod_c l E σ31 v33 v34 v35 v36 v37 _ cσ38) (rfl) (by decide) rfl rfl tl_fi_Mo_addMethod (Nat.le_of_ble_eq_true rfl) d_law_227 ?_
            change gl l E b na xs σ38 [(0, .ref b), (1, .ref (E.1 0)), (2, .ref (E.1 45)), (3, .int x3)] 230 [.int r39, .int r32]
            refine gl_icmp_eq (pc := 230) 462 d_law_230 rfl (fun h40 => ?_) (fun h40 => ?_)
            · have hT := tx_ifp h40 hT
              exact fx_law_b462_w na xs (fx_law_b18 na xs n) (ih) σ38 x3 _ hT
            · have hT := tx_ifn h40 hT
              refine gl_iconst (pc := 233) (0 : Int32) d_law_233 (by decide) ?_
              cases hT
          · have hT := tx_ifn h25 hT
            by_cases h41 : (v2 &&& (15 : Int32)) = (3 : Int32)
            · have hT := tx_ifp h41 hT
              refine gl_tabIn (pc := 33) 235 d_law_33 (by rw [h41]; decide) (by rw [h41]; decide) (by rw [h41]; rfl) rfl ?_
              refine gl_aload_n (pc := 235) 1 d_law_235 rfl rfl ?_
              refine gl_aload_n (pc := 236) 0 d_law_236 rfl rfl ?_
              refine gl_iload_n (pc := 237) 3 d_law_237 rfl rfl ?_
              refine gl_iconst (pc := 238) (1 : Int32) d_law_238 (by decide) ?_
              refine gl_iadd (pc := 239) d_law_239 ?_
              obtain ⟨v42, gv42, iv42, hT⟩ := tx_rs_some hT
              refine gl_sld (pc := 240) v42 d_law_240 iv42 gv42 ?_
              refine gl_aload_n (pc := 241) 0 d_law_241 rfl rfl ?_
              refine gl_iload_n (pc := 242) 3 d_law_242 rfl rfl ?_
              refine gl_iconst (pc := 243) (2 : Int32) d_law_243 (by decide) ?_
              refine gl_iadd (pc := 244) d_law_244 ?_
              obtain ⟨v43, gv43, iv43, hT⟩ := tx_rs_some hT
              refine gl_sld (pc := 245) v43 d_law_245 iv43 gv43 ?_
              refine gl_aload_n (pc := 246) 0 d_law_246 rfl rfl ?_
              refine gl_iload_n (pc := 247) 3 d_law_247 rfl rfl ?_
              refine gl_iconst (pc := 248) (3 : Int32) d_law_248 (by decide) ?_
              refine gl_iadd (pc := 249) d_law_249 ?_
              obtain ⟨v44, gv44, iv44, hT⟩ := tx_rs_some hT
              refine gl_sld (pc := 250) v44 d_law_250 iv44 gv44 ?_
              obtain ⟨r46, σ45, cσ45, hT⟩ := tx_ci_some hT
              refine gl_callV (pc := 251) (As := [.int v42, .int v43, .int v44]) (rest := []) cm_X_emit lk_law_28 (fx_X_emit_c l E σ v42 v43 v44 _ cσ45) (rfl) (by decide) rfl rfl tl_fi_X_emit (Nat.le_of_ble_eq_true rfl) d_law_251 ?_
              change gl l E b na xs σ45 [(0, .ref b), (1, .ref (E.1 0)), (2, .ref (E.1 45)), (3, .int x3)] 254 [.int r46]
              refine gl_aload_n (pc := 254) 2 d_law_254 rfl rfl ?_
              refine gl_aload_n (pc := 255) 0 d_law_255 rfl rfl ?_
              refine gl_iload_n (pc := 256) 3 d_law_256 rfl rfl ?_
              refine gl_iconst (pc := 257) (1 : Int32) d_law_257 (by decide) ?_
              refine gl_iadd (pc := 258) d_law_258 ?_
              obtain ⟨v47, gv47, iv47, hT⟩ := tx_rs_some hT
              refine gl_sld (pc := 259) v47 d_law_259 iv47 gv47 ?_
              refine gl_aload_n (pc := 260) 0 d_law_260 rfl rfl ?_
              refine gl_iload_n (pc := 261) 3 d_law_261 rfl rfl ?_
              refine gl_iconst (pc := 262) (2 : Int32) d_law_262 (by decide) ?_
              refine gl_iadd (pc := 263) d_law_263 ?_
              obtain ⟨v48, gv48, iv48, hT⟩ := tx_rs_some hT
              refine gl_sld (pc := 264) v48 d_law_264 iv48 gv48 ?_
              refine gl_aload_n (pc := 265) 0 d_law_265 rfl rfl ?_
              refine gl_iload_n (pc := 266) 3 d_law_266 rfl rfl ?_
              refine gl_iconst (pc := 267) (3 : Int32) d_law_267 (by decide) ?_
              refine gl_iadd (pc := 268) d_law_268 ?_
              obtain ⟨v49, gv49, iv49, hT⟩ := tx_rs_some hT
              refine gl_sld (pc := 269) v49 d_law_269 iv49 gv49 ?_
              obtain ⟨r51, σ50, cσ50, hT⟩ := tx_ci_some hT
              refine gl_callV (pc := 270) (As := [.int v47, .int v48, .int v49]) (rest := [.int r46]) cm_Mo_emit lk_law_31 (fx_Mo_emit_c l E σ45 v47 v48 v49 _ cσ50) (rfl) (by decide) rfl rfl tl_fi_Mo_emit (Nat.le_of_ble_eq_true rfl) d_law_270 ?_
              change gl l E b na xs σ50 [(0, .ref b), (1, .ref (E.1 0)), (2, .ref (E.1 45)), (3, .int x3)] 273 [.int r51, .int r46]
              refine gl_icmp_eq (pc := 273) 462 d_law_273 rfl (fun h52 => ?_) (fun h52 => ?_)
              · have hT := tx_ifp h52 hT
                exact fx_law_b462_w na xs (fx_law_b18 na xs n) (ih) σ50 x3 _ hT
              · have hT := tx_ifn h52 hT
                refine gl_iconst (pc := 276) (0 : Int32) d_law_276 (by decide) ?_
                cases hT
            · have hT := tx_ifn h41 hT
              by_cases h53 : (v2 &&& (15 : Int32)) = (4 : Int32)
              · have hT := tx_ifp h53 hT
                refine gl_tabIn (pc := 33) 278 d_law_33 (by rw [h53]; decide) (by rw [h53]; decide) (by rw [h53]; rfl) rfl ?_
                refine gl_aload_n (pc := 278) 1 d_law_278 rfl rfl ?_
                obtain ⟨r55, σ54, cσ54, hT⟩ := tx_ci_some hT
                refine gl_callV (pc := 279) (As := []) (rest := []) cm_X_check lk_law_32 (fx_X_check_c l E σ _ cσ54) (rfl) (by decide) rfl rfl tl_fi_X_check (Nat.le_of_ble_eq_true rfl) d_law_279 ?_
                change gl l E b na xs σ54 [(0, .ref b), (1, .ref (E.1 0)), (2, .ref (E.1 45)), (3, .int x3)] 282 [.int r55]
                refine gl_aload_n (pc := 282) 2 d_law_282 rfl rfl ?_
                obtain ⟨r57, σ56, cσ56, hT⟩ := tx_ci_some hT
                refine gl_callV (pc := 283) (As := []) (rest := [.int r55]) cm_Mo_check lk_law_36 (fx_Mo_check_c l E σ54 _ cσ56) (rfl) (by decide) rfl rfl tl_fi_Mo_check (Nat.le_of_ble_eq_true rfl) d_law_283 ?_
                change gl l E b na xs σ56 [(0, .ref b), (1, .ref (E.1 0)), (2, .ref (E.1 45)), (3, .int x3)] 286 [.int r57, .int r55]
                refine gl_icmp_eq (pc := 286) 462 d_law_286 rfl (fun h58 => ?_) (fun h58 => ?_)
                · have hT := tx_ifp h58 hT
                  exact fx_law_b462_w na xs (fx_law_b18 na xs n) (ih) σ56 x3 _ hT
                · have hT := tx_ifn h58 hT
                  refine gl_iconst (pc := 289) (0 : Int32) d_law_289 (by decide) ?_
                  cases hT
              · have hT := tx_ifn h53 hT
                by_cases h59 : (v2 &&& (15 : Int32)) = (5 : Int32)
                · have hT := tx_ifp h59 hT
                  refine gl_tabIn (pc := 33) 291 d_law_33 (by rw [h59]; decide) (by rw [h59]; decide) (by rw [h59]; rfl) rfl ?_
                  refine gl_aload_n (pc := 291) 1 d_law_291 rfl rfl ?_
                  obtain ⟨σ60, cσ60, hT⟩ := tx_cv_some hT
                  refine gl_callV (pc := 292) (As := []) (rest := []) cm_X_clear lk_law_37 (fx_X_clear_c l E σ _ cσ60) (rfl) (by decide) rfl rfl tl_fi_X_clear (Nat.le_of_ble_eq_true rfl) d_law_292 ?_
                  change gl l E b na xs σ60 [(0, .ref b), (1, .ref (E.1 0)), (2, .ref (E.1 45)), (3, .int x3)] 295 []
                  refine gl_aload_n (pc := 295) 2 d_law_295 rfl rfl ?_
                  obtain ⟨σ61, cσ61, hT⟩ := tx_cv_some hT
                  refine gl_callV (pc := 296) (As := []) (rest := []) cm_Mo_clear lk_law_40 (fx_Mo_clear_c l E σ60 _ cσ61) (rfl) (by decide) rfl rfl tl_fi_Mo_clear (Nat.le_of_ble_eq_true rfl) d_law_296 ?_
                  change gl l E b na xs σ61 [(0, .ref b), (1, .ref (E.1 0)), (2, .ref (E.1 45)), (3, .int x3)] 299 []
                  refine gl_goto (pc := 299) 462 d_law_299 rfl ?_
                  exact fx_law_b462_w na xs (fx_law_b18 na xs n) (ih) σ61 x3 _ hT
                · have hT := tx_ifn h59 hT
                  by_cases h62 : (v2 &&& (15 : Int32)) = (6 : Int32)
                  · have hT := tx_ifp h62 hT
                    refine gl_tabIn (pc := 33) 302 d_law_33 (by rw [h62]; decide) (by rw [h62]; decide) (by rw [h62]; rfl) rfl ?_
                    refine gl_aload_n (pc := 302) 1 d_law_302 rfl rfl ?_
                    refine gl_aload_n (pc := 303) 0 d_law_303 rfl rfl ?_
                    refine gl_iload_n (pc := 304) 3 d_law_304 rfl rfl ?_
                    refine gl_iconst (pc := 305) (1 : Int32) d_law_305 (by decide) ?_
                    refine gl_iadd (pc := 306) d_law_306 ?_
                    obtain ⟨v63, gv63, iv63, hT⟩ := tx_rs_some hT
                    refine gl_sld (pc := 307) v63 d_law_307 iv63 gv63 ?_
                    refine gl_aload_n (pc := 308) 0 d_law_308 rfl rfl ?_
                    refine gl_iload_n (pc := 309) 3 d_law_309 rfl rfl ?_
                    refine gl_iconst (pc := 310) (2 : Int32) d_law_310 (by decide) ?_
                    refine gl_iadd (pc := 311) d_law_311 ?_
                    obtain ⟨v64, gv64, iv64, hT⟩ := tx_rs_some hT
                    refine gl_sld (pc := 312) v64 d_law_312 iv64 gv64 ?_
                    obtain ⟨r66, σ65, cσ65, hT⟩ := tx_ci_some hT
                    refine gl_callV (pc := 313) (As := [.int v63, .int v64]) (rest := []) cm_X_typesAt lk_law_41 (fx_X_typesAt_c l E σ v63 v64 _ cσ65) (rfl) (by decide) rfl rfl tl_fi_X_typesAt (Nat.le_of_ble_eq_true rfl) d_law_313 ?_
                    change gl l E b na xs σ65 [(0, .ref b), (1, .ref (E.1 0)), (2, .ref (E.1 45)), (3, .int x3)] 316 [.int r66]
                    refine gl_aload_n (pc := 316) 2 d_law_316 rfl rfl ?_
                    refine gl_aload_n (pc := 317) 0 d_law_317 rfl rfl ?_
                    refine gl_iload_n (pc := 318) 3 d_law_318 rfl rfl ?_
                    refine gl_iconst (pc := 319) (1 : Int32) d_law_319 (by decide) ?_
                    refine gl_iadd (pc := 320) d_law_320 ?_
                    obtain ⟨v67, gv67, iv67, hT⟩ := tx_rs_some hT
                    refine gl_sld (pc := 321) v67 d_law_321 iv67 gv67 ?_
                    refine gl_aload_n (pc := 322) 0 d_law_322 rfl rfl ?_
                    refine gl_iload_n (pc := 323) 3 d_law_323 rfl rfl ?_
                    refine gl_iconst (pc := 324) (2 : Int32) d_law_324 (by decide) ?_
                    refine gl_iadd (pc := 325) d_law_325 ?_
                    obtain ⟨v68, gv68, iv68, hT⟩ := tx_rs_some hT
                    refine gl_sld (pc := 326) v68 d_law_326 iv68 gv68 ?_
                    obtain ⟨r70, σ69, cσ69, hT⟩ := tx_ci_some hT
                    refine gl_callV (pc := 327) (As := [.int v67, .int v68]) (rest := [.int r66]) cm_Mo_typesAt lk_law_44 (fx_Mo_typesAt_c l E σ65 v67 v68 _ cσ69) (rfl) (by decide) rfl rfl tl_fi_Mo_typesAt (Nat.le_of_ble_eq_true rfl) d_law_327 ?_
                    change gl l E b na xs σ69 [(0, .ref b), (1, .ref (E.1 0)), (2, .ref (E.1 45)), (3, .int x3)] 330 [.int r70, .int r66]
                    refine gl_icmp_eq (pc := 330) 462 d_law_330 rfl (fun h71 => ?_) (fun h71 => ?_)
                    · have hT := tx_ifp h71 hT
                      exact fx_law_b462_w na xs (fx_law_b18 na xs n) (ih) σ69 x3 _ hT
                    · have hT := tx_ifn h71 hT
                      refine gl_iconst (pc := 333) (0 : Int32) d_law_333 (by decide) ?_
                      cases hT
                  · have hT := tx_ifn h62 hT
                    by_cases h72 : (v2 &&& (15 : Int32)) = (7 : Int32)
                    · have hT := tx_ifp h72 hT
                      refine gl_tabIn (pc := 33) 335 d_law_33 (by rw [h72]; decide) (by rw [h72]; decide) (by rw [h72]; rfl) rfl ?_
                      refine gl_aload_n (pc := 335) 1 d_law_335 rfl rfl ?_
                      refine gl_aload_n (pc := 336) 0 d_law_336 rfl rfl ?_
                      refine gl_iload_n (pc := 337) 3 d_law_337 rfl rfl ?_
                      refine gl_iconst (pc := 338) (1 : Int32) d_law_338 (by decide) ?_
                      refine gl_iadd (pc := 339) d_law_339 ?_
                      obtain ⟨v73, gv73, iv73, hT⟩ := tx_rs_some hT
                      refine gl_sld (pc := 340) v73 d_law_340 iv73 gv73 ?_
                      refine gl_aload_n (pc := 341) 0 d_law_341 rfl rfl ?_
                      refine gl_iload_n (pc := 342) 3 d_law_342 rfl rfl ?_
                      refine gl_iconst (pc := 343) (2 : Int32) d_law_343 (by decide) ?_
                      refine gl_iadd (pc := 344) d_law_344 ?_
                      obtain ⟨v74, gv74, iv74, hT⟩ := tx_rs_some hT
                      refine gl_sld (pc := 345) v74 d_law_345 iv74 gv74 ?_
                      refine gl_aload_n (pc := 346) 0 d_law_346 rfl rfl ?_
                      refine gl_iload_n (pc := 347) 3 d_law_347 rfl rfl ?_
                      refine gl_iconst (pc := 348) (3 : Int32) d_law_348 (by decide) ?_
                      refine gl_iadd (pc := 349) d_law_349 ?_
                      obtain ⟨v75, gv75, iv75, hT⟩ := tx_rs_some hT
                      refine gl_sld (pc := 350) v75 d_law_350 iv75 gv75 ?_
                      obtain ⟨r77, σ76, cσ76, hT⟩ := tx_cl_some hT
                      refine gl_callV (pc := 351) (As := [.int v73, .int v74, .int v75]) (rest := []) cm_X_run lk_law_45 (fx_X_run_c l E σ v73 v74 v75 _ cσ76) (rfl) (by decide) rfl rfl tl_fi_X_run (Nat.le_of_ble_eq_true rfl) d_law_351 ?_
                      change gl l E b na xs σ76 [(0, .ref b), (1, .ref (E.1 0)), (2, .ref (E.1 45)), (3, .int x3)] 354 [.long r77]
                      refine gl_aload_n (pc := 354) 2 d_law_354 rfl rfl ?_
                      refine gl_aload_n (pc := 355) 0 d_law_355 rfl rfl ?_
                      refine gl_iload_n (pc := 356) 3 d_law_356 rfl rfl ?_
                      refine gl_iconst (pc := 357) (1 : Int32) d_law_357 (by decide) ?_
                      refine gl_iadd (pc := 358) d_law_358 ?_
                      obtain ⟨v78, gv78, iv78, hT⟩ := tx_rs_some hT
                      refine gl_sld (pc := 359) v78 d_law_359 iv78 gv78 ?_
                      refine gl_aload_n (pc := 360) 0 d_law_360 rfl rfl ?_
                      refine gl_iload_n (pc := 361) 3 d_law_361 rfl rfl ?_
                      refine gl_iconst (pc := 362) (2 : Int32) d_law_362 (by decide) ?_
                      refine gl_iadd (pc := 363) d_law_363 ?_
                      obtain ⟨v79, gv79, iv79, hT⟩ := tx_rs_some hT
                      refine gl_sld (pc := 364) v79 d_law_364 iv79 gv79 ?_
                      refine gl_aload_n (pc := 365) 0 d_law_365 rfl rfl ?_
                      refine gl_iload_n (pc := 366) 3 d_law_366 rfl rfl ?_
                      refine gl_iconst (pc := 367) (3 : Int32) d_law_367 (by decide) ?_
                      refine gl_iadd (pc := 368) d_law_368 ?_
                      obtain ⟨v80, gv80, iv80, hT⟩ := tx_rs_some hT
                      refine gl_sld (pc := 369) v80 d_law_369 iv80 gv80 ?_
                      obtain ⟨r82, σ81, cσ81, hT⟩ := tx_cl_some hT
                      refine gl_callV (pc := 370) (As := [.int v78, .int v79, .int v80]) (rest := [.long r77]) cm_Mo_run lk_law_49 (fx_Mo_run_c l E σ76 v78 v79 v80 _ cσ81) (rfl) (by decide) rfl rfl tl_fi_Mo_run (Nat.le_of_ble_eq_true rfl) d_law_370 ?_
                      change gl l E b na xs σ81 [(0, .ref b), (1, .ref (E.1 0)), (2, .ref (E.1 45)), (3, .int x3)] 373 [.long r82, .long r77]
                      refine gl_lcmp (pc := 373) d_law_373 ?_
                      refine gl_if_eq (pc := 374) 462 d_law_374 rfl (fun h83 => ?_) (fun h83 => ?_)
                      · have hT := tx_ifp h83 hT
                        exact fx_law_b462_w na xs (fx_law_b18 na xs n) (ih) σ81 x3 _ hT
                      · have hT := tx_ifn h83 hT
                        refine gl_iconst (pc := 377) (0 : Int32) d_law_377 (by decide) ?_
                        cases hT
                    · have hT := tx_ifn h72 hT
                      by_cases h84 : (v2 &&& (15 : Int32)) = (8 : Int32)
                      · have hT := tx_ifp h84 hT
                        refine gl_tabIn (pc := 33) 379 d_law_33 (by rw [h84]; decide) (by rw [h84]; decide) (by rw [h84]; rfl) rfl ?_
                        refine gl_aload_n (pc := 379) 1 d_law_379 rfl rfl ?_
                        refine gl_aload_n (pc := 380) 0 d_law_380 rfl rfl ?_
                        refine gl_iload_n (pc := 381) 3 d_law_381 rfl rfl ?_
                        refine gl_iconst (pc := 382) (1 : Int32) d_law_382 (by decide) ?_
                        refine gl_iadd (pc := 383) d_law_383 ?_
                        obtain ⟨v85, gv85, iv85, hT⟩ := tx_rs_some hT
                        refine gl_sld (pc := 384) v85 d_law_384 iv85 gv85 ?_
                        refine gl_aload_n (pc := 385) 0 d_law_385 rfl rfl ?_
                        refine gl_iload_n (pc := 386) 3 d_law_386 rfl rfl ?_
                        refine gl_iconst (pc := 387) (2 : Int32) d_law_387 (by decide) ?_
                        refine gl_iadd (pc := 388) d_law_388 ?_
                        obtain ⟨v86, gv86, iv86, hT⟩ := tx_rs_some hT
                        refine gl_sld (pc := 389) v86 d_law_389 iv86 gv86 ?_
                        obtain ⟨r88, σ87, cσ87, hT⟩ := tx_cl_some hT
                        refine gl_callV (pc := 390) (As := [.int v85, .int v86]) (rest := []) cm_X_look lk_law_50 (fx_X_look_c l E σ v85 v86 _ cσ87) (rfl) (by decide) rfl rfl tl_fi_X_look (Nat.le_of_ble_eq_true rfl) d_law_390 ?_
                        change gl l E b na xs σ87 [(0, .ref b), (1, .ref (E.1 0)), (2, .ref (E.1 45)), (3, .int x3)] 393 [.long r88]
                        refine gl_aload_n (pc := 393) 2 d_law_393 rfl rfl ?_
                        refine gl_aload_n (pc := 394) 0 d_law_394 rfl rfl ?_
                        refine gl_iload_n (pc := 395) 3 d_law_395 rfl rfl ?_
                        refine gl_iconst (pc := 396) (1 : Int32) d_law_396 (by decide) ?_
                        refine gl_iadd (pc := 397) d_law_397 ?_
                        obtain ⟨v89, gv89, iv89, hT⟩ := tx_rs_some hT
                        refine gl_sld (pc := 398) v89 d_law_398 iv89 gv89 ?_
                        refine gl_aload_n (pc := 399) 0 d_law_399 rfl rfl ?_
                        refine gl_iload_n (pc := 400) 3 d_law_400 rfl rfl ?_
                        refine gl_iconst (pc := 401) (2 : Int32) d_law_401 (by decide) ?_
                        refine gl_iadd (pc := 402) d_law_402 ?_
                        obtain ⟨v90, gv90, iv90, hT⟩ := tx_rs_some hT
                        refine gl_sld (pc := 403) v90 d_law_403 iv90 gv90 ?_
                        obtain ⟨r92, σ91, cσ91, hT⟩ := tx_cl_some hT
                        refine gl_callV (pc := 404) (As := [.int v89, .int v90]) (rest := [.long r88]) cm_Mo_look lk_law_54 (fx_Mo_look_c l E σ87 v89 v90 _ cσ91) (rfl) (by decide) rfl rfl tl_fi_Mo_look (Nat.le_of_ble_eq_true rfl) d_law_404 ?_
                        change gl l E b na xs σ91 [(0, .ref b), (1, .ref (E.1 0)), (2, .ref (E.1 45)), (3, .int x3)] 407 [.long r92, .long r88]
                        refine gl_lcmp (pc := 407) d_law_407 ?_
                        refine gl_if_eq (pc := 408) 462 d_law_408 rfl (fun h93 => ?_) (fun h93 => ?_)
                        · have hT := tx_ifp h93 hT
                          exact fx_law_b462_w na xs (fx_law_b18 na xs n) (ih) σ91 x3 _ hT
                        · have hT := tx_ifn h93 hT
                          refine gl_iconst (pc := 411) (0 : Int32) d_law_411 (by decide) ?_
                          cases hT
                      · have hT := tx_ifn h84 hT
                        by_cases h94 : (v2 &&& (15 : Int32)) = (9 : Int32)
                        · have hT := tx_ifp h94 hT
                          refine gl_tabIn (pc := 33) 413 d_law_33 (by rw [h94]; decide) (by rw [h94]; decide) (by rw [h94]; rfl) rfl ?_
                          refine gl_aload_n (pc := 413) 1 d_law_413 rfl rfl ?_
                          refine gl_aload_n (pc := 414) 0 d_law_414 rfl rfl ?_
                          refine gl_iload_n (pc := 415) 3 d_law_415 rfl rfl ?_
                          refine gl_iconst (pc := 416) (1 : Int32) d_law_416 (by decide) ?_
                          refine gl_iadd (pc := 417) d_law_417 ?_
                          obtain ⟨v95, gv95, iv95, hT⟩ := tx_rs_some hT
                          refine gl_sld (pc := 418) v95 d_law_418 iv95 gv95 ?_
                          obtain ⟨r97, σ96, cσ96, hT⟩ := tx_ci_some hT
                          refine gl_callV (pc := 419) (As := [.int v95]) (rest := []) cm_X_held lk_law_55 (fx_X_held_c l E σ v95 _ cσ96) (rfl) (by decide) rfl rfl tl_fi_X_held (Nat.le_of_ble_eq_true rfl) d_law_419 ?_
                          change gl l E b na xs σ96 [(0, .ref b), (1, .ref (E.1 0)), (2, .ref (E.1 45)), (3, .int x3)] 422 [.int r97]
                          refine gl_aload_n (pc := 422) 2 d_law_422 rfl rfl ?_
                          refine gl_aload_n (pc := 423) 0 d_law_423 rfl rfl ?_
                          refine gl_iload_n (pc := 424) 3 d_law_424 rfl rfl ?_
                          refine gl_iconst (pc := 425) (1 : Int32) d_law_425 (by decide) ?_
                          refine gl_iadd (pc := 426) d_law_426 ?_
                          obtain ⟨v98, gv98, iv98, hT⟩ := tx_rs_some hT
                          refine gl_sld (pc := 427) v98 d_law_427 iv98 gv98 ?_
                          obtain ⟨r100, σ99, cσ99, hT⟩ := tx_ci_some hT
                          refine gl_callV (pc := 428) (As := [.int v98]) (rest := [.int r97]) cm_Mo_held lk_law_59 (fx_Mo_held_c l E σ96 v98 _ cσ99) (rfl) (by decide) rfl rfl tl_fi_Mo_held (Nat.le_of_ble_eq_true rfl) d_law_428 ?_
                          change gl l E b na xs σ99 [(0, .ref b), (1, .ref (E.1 0)), (2, .ref (E.1 45)), (3, .int x3)] 431 [.int r100, .int r97]
                          refine gl_icmp_eq (pc := 431) 462 d_law_431 rfl (fun h101 => ?_) (fun h101 => ?_)
                          · have hT := tx_ifp h101 hT
                            exact fx_law_b462_w na xs (fx_law_b18 na xs n) (ih) σ99 x3 _ hT
                          · have hT := tx_ifn h101 hT
                            refine gl_iconst (pc := 434) (0 : Int32) d_law_434 (by decide) ?_
                            cases hT
                        · have hT := tx_ifn h94 hT
                          by_cases h102 : (v2 &&& (15 : Int32)) = (10 : Int32)
                          · have hT := tx_ifp h102 hT
                            refine gl_tabIn (pc := 33) 436 d_law_33 (by rw [h102]; decide) (by rw [h102]; decide) (by rw [h102]; rfl) rfl ?_
                            refine gl_aload_n (pc := 436) 1 d_law_436 rfl rfl ?_
                            obtain ⟨r104, σ103, cσ103, hT⟩ := tx_ci_some hT
                            refine gl_callV (pc := 437) (As := []) (rest := []) cm_X_runs lk_law_60 (fx_X_runs_c l E σ _ cσ103) (rfl) (by decide) rfl rfl tl_fi_X_runs (Nat.le_of_ble_eq_true rfl) d_law_437 ?_
                            change gl l E b na xs σ103 [(0, .ref b), (1, .ref (E.1 0)), (2, .ref (E.1 45)), (3, .int x3)] 440 [.int r104]
                            refine gl_aload_n (pc := 440) 2 d_law_440 rfl rfl ?_
                            obtain ⟨r106, σ105, cσ105, hT⟩ := tx_ci_some hT
                            refine gl_callV (pc := 441) (As := []) (rest := [.int r104]) cm_Mo_runs lk_law_63 (fx_Mo_runs_c l E σ103 _ cσ105) (rfl) (by decide) rfl rfl tl_fi_Mo_runs (Nat.le_of_ble_eq_true rfl) d_law_441 ?_
                            change gl l E b na xs σ105 [(0, .ref b), (1, .ref (E.1 0)), (2, .ref (E.1 45)), (3, .int x3)] 444 [.int r106, .int r104]
                            refine gl_icmp_eq (pc := 444) 462 d_law_444 rfl (fun h107 => ?_) (fun h107 => ?_)
                            · have hT := tx_ifp h107 hT
                              exact fx_law_b462_w na xs (fx_law_b18 na xs n) (ih) σ105 x3 _ hT
                            · have hT := tx_ifn h107 hT
                              refine gl_iconst (pc := 447) (0 : Int32) d_law_447 (by decide) ?_
                              cases hT
                          · have hT := tx_ifn h102 hT
                            by_cases h108 : (v2 &&& (15 : Int32)) = (11 : Int32)
                            · have hT := tx_ifp h108 hT
                              refine gl_tabIn (pc := 33) 449 d_law_33 (by rw [h108]; decide) (by rw [h108]; decide) (by rw [h108]; rfl) rfl ?_
                              refine gl_aload_n (pc := 449) 1 d_law_449 rfl rfl ?_
                              obtain ⟨r110, σ109, cσ109, hT⟩ := tx_ci_some hT
                              refine gl_callV (pc := 450) (As := []) (rest := []) cm_X_steps lk_law_64 (fx_X_steps_c l E σ _ cσ109) (rfl) (by decide) rfl rfl tl_fi_X_steps (Nat.le_of_ble_eq_true rfl) d_law_450 ?_
                              change gl l E b na xs σ109 [(0, .ref b), (1, .ref (E.1 0)), (2, .ref (E.1 45)), (3, .int x3)] 453 [.int r110]
                              refine gl_aload_n (pc := 453) 2 d_law_453 rfl rfl ?_
                              obtain ⟨r112, σ111, cσ111, hT⟩ := tx_ci_some hT
                              refine gl_callV (pc := 454) (As := []) (rest := [.int r110]) cm_Mo_steps lk_law_67 (fx_Mo_steps_c l E σ109 _ cσ111) (rfl) (by decide) rfl rfl tl_fi_Mo_steps (Nat.le_of_ble_eq_true rfl) d_law_454 ?_
                              change gl l E b na xs σ111 [(0, .ref b), (1, .ref (E.1 0)), (2, .ref (E.1 45)), (3, .int x3)] 457 [.int r112, .int r110]
                              refine gl_icmp_eq (pc := 457) 462 d_law_457 rfl (fun h113 => ?_) (fun h113 => ?_)
                              · have hT := tx_ifp h113 hT
                                exact fx_law_b462_w na xs (fx_law_b18 na xs n) (ih) σ111 x3 _ hT
                              · have hT := tx_ifn h113 hT
                                refine gl_iconst (pc := 460) (0 : Int32) d_law_460 (by decide) ?_
                                cases hT
                            · have hT := tx_ifn h108 hT
                              refine gl_tabOut (pc := 33) 462 d_law_33 (by have zh3 := lv_neT h3 (a := 0) (by decide); have zh13 := lv_neT h13 (a := 1) (by decide); have zh25 := lv_neT h25 (a := 2) (by decide); have zh41 := lv_neT h41 (a := 3) (by decide); have zh53 := lv_neT h53 (a := 4) (by decide); have zh59 := lv_neT h59 (a := 5) (by decide); have zh62 := lv_neT h62 (a := 6) (by decide); have zh72 := lv_neT h72 (a := 7) (by decide); have zh84 := lv_neT h84 (a := 8) (by decide); have zh94 := lv_neT h94 (a := 9) (by decide); have zh102 := lv_neT h102 (a := 10) (by decide); have zh108 := lv_neT h108 (a := 11) (by decide); omega) rfl ?_
                              exact fx_law_b462_w na xs (fx_law_b18 na xs n) (ih) σ x3 _ hT
set_option maxRecDepth 100000 in
set_option maxHeartbeats 4000000 in
theorem fx_law_w {l : Launch} {E : tx_E} {b : Nat} (na : Nat) (xs : Nat → Int32) (σ : tx_St) (t : tx_St) (hT : fx_law na xs σ = some t) : gl l E b na xs σ [(2, .ref (E.1 45)), (1, .ref (E.1 0)), (0, .ref b)] 16 [] := by
  unfold fx_law at hT
  refine gl_iconst (pc := 16) (0 : Int32) d_law_16 (by decide) ?_
  refine gl_istore_n (pc := 17) [(3, .int (0 : Int32)), (2, .ref (E.1 45)), (1, .ref (E.1 0)), (0, .ref b)] d_law_17 rfl (Nat.le_of_ble_eq_true rfl) rfl ?_
  refine gl_sub [3, 2, 1, 0] rfl ?_
  exact fx_law_b18_w na xs  600 σ (0 : Int32) _ hT
