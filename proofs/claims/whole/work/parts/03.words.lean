def gB : List Cond := lw_tbl.filter goodWord
theorem gB_in : ∀ w ∈ gB, w ∈ lw_tbl := fun _ h => (List.mem_filter.mp h).1
theorem gB_good : GoodIn gB gB := fun _ h => ⟨h, good_of_word (List.mem_filter.mp h).2⟩
theorem wt_1 {w : Cond} (h : w ∈ tables_1_1) (g : goodWord w = true) : w ∈ gB := List.mem_filter.mpr ⟨List.mem_append_right _ (List.mem_append_left _ h), g⟩
theorem wt_2 {w : Cond} (h : w ∈ tables_1_2) (g : goodWord w = true) : w ∈ gB := List.mem_filter.mpr ⟨List.mem_append_right _ (List.mem_append_right _ (List.mem_append_left _ h)), g⟩
theorem wt_3 {w : Cond} (h : w ∈ tables_1_3) (g : goodWord w = true) : w ∈ gB := List.mem_filter.mpr ⟨List.mem_append_right _ (List.mem_append_right _ (List.mem_append_right _ h)), g⟩
theorem wt_s {w : Cond} (h : w ∈ k2_sels lw_privs) (g : goodWord w = true) : w ∈ gB := List.mem_filter.mpr ⟨List.mem_append_left _ h, g⟩
theorem q_0 : (Cond.classLink RL 7 RX3) ∈ gB := wt_1 (List.mem_of_getElem? (i := 9) rfl) rfl
theorem q_1 : (Cond.instantiable RX3 6) ∈ gB := wt_1 (List.mem_of_getElem? (i := 10) rfl) rfl
theorem q_2 : (Cond.initialized RX3) ∈ gB := wt_1 (List.mem_of_getElem? (i := 1) rfl) rfl
theorem q_3 : (Cond.classLink RL 10 RX4) ∈ gB := wt_2 (List.mem_of_getElem? (i := 209) rfl) rfl
theorem q_4 : (Cond.instantiable RX4 23) ∈ gB := wt_2 (List.mem_of_getElem? (i := 210) rfl) rfl
theorem q_5 : (Cond.initialized RX4) ∈ gB := wt_1 (List.mem_of_getElem? (i := 6) rfl) rfl
theorem q_6 : (Cond.methodLink RL 9 yX3_init) ∈ gB := wt_1 (List.mem_of_getElem? (i := 11) rfl) rfl
theorem q_7 : (Cond.instanceMethod yX3_init) ∈ gB := wt_1 (List.mem_of_getElem? (i := 12) rfl) rfl
theorem q_8 : (Cond.code yX3_init cX3_init 1 none) ∈ gB := wt_1 (List.mem_of_getElem? (i := 13) rfl) rfl
theorem q_9 : (Cond.methodLink RX3 3 objectInit) ∈ gB := wt_1 (List.mem_of_getElem? (i := 14) rfl) rfl
theorem q_10 : (Cond.instanceMethod objectInit) ∈ gB := wt_1 (List.mem_of_getElem? (i := 15) rfl) rfl
theorem q_11 : (Cond.code objectInit ⟨#[0xb1]⟩ 1 none) ∈ gB := wt_1 (List.mem_of_getElem? (i := 16) rfl) rfl
theorem q_12 : (Cond.classLink RX3 9 RX0) ∈ gB := wt_1 (List.mem_of_getElem? (i := 17) rfl) rfl
theorem q_13 : (Cond.instantiable RX0 15) ∈ gB := wt_1 (List.mem_of_getElem? (i := 18) rfl) rfl
theorem q_14 : (Cond.initialized RX0) ∈ gB := wt_1 (List.mem_of_getElem? (i := 2) rfl) rfl
theorem q_15 : (Cond.fieldLink RX3 12 "HingeCards" "card" "LHingeCards$Card;") ∈ gB := wt_1 (List.mem_of_getElem? (i := 162) rfl) rfl
theorem q_16 : (Cond.fieldLink RX3 16 "HingeCards" "image0" "LHingeCards$Card;") ∈ gB := wt_1 (List.mem_of_getElem? (i := 163) rfl) rfl
theorem q_17 : (Cond.fieldLink RX3 19 "HingeCards" "image1" "LHingeCards$Card;") ∈ gB := wt_1 (List.mem_of_getElem? (i := 164) rfl) rfl
theorem q_18 : (Cond.fieldLink RX3 22 "HingeCards" "keptImages" "I") ∈ gB := wt_1 (List.mem_of_getElem? (i := 165) rfl) rfl
theorem q_19 : (Cond.classLink RX3 26 RX1) ∈ gB := wt_1 (List.mem_of_getElem? (i := 112) rfl) rfl
theorem q_20 : (Cond.instantiable RX1 5) ∈ gB := wt_1 (List.mem_of_getElem? (i := 113) rfl) rfl
theorem q_21 : (Cond.initialized RX1) ∈ gB := wt_1 (List.mem_of_getElem? (i := 4) rfl) rfl
theorem q_22 : (Cond.fieldLink RX3 29 "HingeCards" "search" "LHingeCards$Search;") ∈ gB := wt_1 (List.mem_of_getElem? (i := 166) rfl) rfl
theorem q_23 : (Cond.classLink RX3 33 RX2) ∈ gB := wt_1 (List.mem_of_getElem? (i := 139) rfl) rfl
theorem q_24 : (Cond.instantiable RX2 4) ∈ gB := wt_1 (List.mem_of_getElem? (i := 140) rfl) rfl
theorem q_25 : (Cond.initialized RX2) ∈ gB := wt_1 (List.mem_of_getElem? (i := 5) rfl) rfl
theorem q_26 : (Cond.fieldLink RX3 36 "HingeCards" "sight" "LHingeCards$Sight;") ∈ gB := wt_1 (List.mem_of_getElem? (i := 167) rfl) rfl
theorem q_27 : (Cond.methodLink RX3 11 yX0_init) ∈ gB := wt_1 (List.mem_of_getElem? (i := 19) rfl) rfl
theorem q_28 : (Cond.instanceMethod yX0_init) ∈ gB := wt_1 (List.mem_of_getElem? (i := 20) rfl) rfl
theorem q_29 : (Cond.code yX0_init cX0_init 1 none) ∈ gB := wt_1 (List.mem_of_getElem? (i := 21) rfl) rfl
theorem q_30 : (Cond.methodLink RX0 3 objectInit) ∈ gB := wt_1 (List.mem_of_getElem? (i := 22) rfl) rfl
theorem q_31 : (Cond.arrayClass .int) ∈ gB := wt_1 (List.mem_of_getElem? (i := 111) rfl) rfl
theorem q_32 : (Cond.fieldLink RX0 9 "HingeCards$Card" "boxCorner" "[I") ∈ gB := wt_1 (List.mem_of_getElem? (i := 60) rfl) rfl
theorem q_33 : (Cond.fieldLink RX0 15 "HingeCards$Card" "boxA" "[I") ∈ gB := wt_1 (List.mem_of_getElem? (i := 61) rfl) rfl
theorem q_34 : (Cond.fieldLink RX0 18 "HingeCards$Card" "boxB" "[I") ∈ gB := wt_1 (List.mem_of_getElem? (i := 62) rfl) rfl
theorem q_35 : (Cond.fieldLink RX0 21 "HingeCards$Card" "faceAlong" "[I") ∈ gB := wt_1 (List.mem_of_getElem? (i := 63) rfl) rfl
theorem q_36 : (Cond.fieldLink RX0 24 "HingeCards$Card" "faceLine" "[I") ∈ gB := wt_1 (List.mem_of_getElem? (i := 66) rfl) rfl
theorem q_37 : (Cond.fieldLink RX0 27 "HingeCards$Card" "faceStart" "[I") ∈ gB := wt_1 (List.mem_of_getElem? (i := 67) rfl) rfl
theorem q_38 : (Cond.fieldLink RX0 30 "HingeCards$Card" "faceLength" "[I") ∈ gB := wt_1 (List.mem_of_getElem? (i := 68) rfl) rfl
theorem q_39 : (Cond.fieldLink RX0 33 "HingeCards$Card" "cornerP" "[I") ∈ gB := wt_1 (List.mem_of_getElem? (i := 70) rfl) rfl
theorem q_40 : (Cond.fieldLink RX0 36 "HingeCards$Card" "cornerQ" "[I") ∈ gB := wt_1 (List.mem_of_getElem? (i := 72) rfl) rfl
theorem q_41 : (Cond.fieldLink RX0 39 "HingeCards$Card" "cornerU" "[I") ∈ gB := wt_1 (List.mem_of_getElem? (i := 74) rfl) rfl
theorem q_42 : (Cond.fieldLink RX0 42 "HingeCards$Card" "cornerV" "[I") ∈ gB := wt_1 (List.mem_of_getElem? (i := 76) rfl) rfl
theorem q_43 : (Cond.fieldLink RX0 45 "HingeCards$Card" "stretches" "[I") ∈ gB := wt_1 (List.mem_of_getElem? (i := 78) rfl) rfl
theorem q_44 : (Cond.fieldLink RX0 48 "HingeCards$Card" "places" "[I") ∈ gB := wt_1 (List.mem_of_getElem? (i := 79) rfl) rfl
theorem q_45 : (Cond.methodLink RX0 51 yX0_begin) ∈ gB := wt_1 (List.mem_of_getElem? (i := 23) rfl) rfl
theorem q_46 : (Cond.instanceMethod yX0_begin) ∈ gB := wt_1 (List.mem_of_getElem? (i := 24) rfl) rfl
theorem q_47 : (Cond.selects RX0 yX0_begin yX0_begin) ∈ gB := wt_1 (List.mem_of_getElem? (i := 25) rfl) rfl
theorem q_48 : (Cond.code yX0_begin cX0_begin 2 none) ∈ gB := wt_1 (List.mem_of_getElem? (i := 26) rfl) rfl
theorem q_49 : (Cond.fieldLink RX0 55 "HingeCards$Card" "pageLength" "I") ∈ gB := wt_1 (List.mem_of_getElem? (i := 56) rfl) rfl
theorem q_50 : (Cond.fieldLink RX0 59 "HingeCards$Card" "boxes" "I") ∈ gB := wt_1 (List.mem_of_getElem? (i := 58) rfl) rfl
theorem q_51 : (Cond.methodLink RX0 62 yX0_setFace) ∈ gB := wt_1 (List.mem_of_getElem? (i := 27) rfl) rfl
theorem q_52 : (Cond.instanceMethod yX0_setFace) ∈ gB := wt_1 (List.mem_of_getElem? (i := 28) rfl) rfl
theorem q_53 : (Cond.selects RX0 yX0_setFace yX0_setFace) ∈ gB := wt_1 (List.mem_of_getElem? (i := 29) rfl) rfl
theorem q_54 : (Cond.code yX0_setFace cX0_setFace 6 none) ∈ gB := wt_1 (List.mem_of_getElem? (i := 30) rfl) rfl
theorem q_55 : (Cond.methodLink RX0 66 yX0_setCorner) ∈ gB := wt_1 (List.mem_of_getElem? (i := 31) rfl) rfl
theorem q_56 : (Cond.instanceMethod yX0_setCorner) ∈ gB := wt_1 (List.mem_of_getElem? (i := 32) rfl) rfl
theorem q_57 : (Cond.selects RX0 yX0_setCorner yX0_setCorner) ∈ gB := wt_1 (List.mem_of_getElem? (i := 33) rfl) rfl
theorem q_58 : (Cond.code yX0_setCorner cX0_setCorner 6 none) ∈ gB := wt_1 (List.mem_of_getElem? (i := 34) rfl) rfl
theorem q_59 : (Cond.methodLink RX0 69 yX0_redraw) ∈ gB := wt_1 (List.mem_of_getElem? (i := 35) rfl) rfl
theorem q_60 : (Cond.instanceMethod yX0_redraw) ∈ gB := wt_1 (List.mem_of_getElem? (i := 36) rfl) rfl
theorem q_61 : (Cond.selects RX0 yX0_redraw yX0_redraw) ∈ gB := wt_1 (List.mem_of_getElem? (i := 37) rfl) rfl
theorem q_62 : (Cond.code yX0_redraw cX0_redraw 2 none) ∈ gB := wt_1 (List.mem_of_getElem? (i := 38) rfl) rfl
theorem q_63 : (Cond.methodLink RX0 100 yJ7_fill_53178) ∈ gB := wt_1 (List.mem_of_getElem? (i := 39) rfl) rfl
theorem q_64 : (Cond.static yJ7_fill_53178) ∈ gB := wt_1 (List.mem_of_getElem? (i := 40) rfl) rfl
theorem q_65 : (Cond.initialized RJ7) ∈ gB := wt_1 (List.mem_of_getElem? (i := 3) rfl) rfl
theorem q_66 : (Cond.code yJ7_fill_53178 cJ7_fill_53178 4 none) ∈ gB := wt_1 (List.mem_of_getElem? (i := 41) rfl) rfl
theorem q_67 : (Cond.methodLink RX0 76 yX0_faces) ∈ gB := wt_1 (List.mem_of_getElem? (i := 42) rfl) rfl
theorem q_68 : (Cond.instanceMethod yX0_faces) ∈ gB := wt_1 (List.mem_of_getElem? (i := 43) rfl) rfl
theorem q_69 : (Cond.selects RX0 yX0_faces yX0_faces) ∈ gB := wt_1 (List.mem_of_getElem? (i := 44) rfl) rfl
theorem q_70 : (Cond.code yX0_faces cX0_faces 1 (some .int)) ∈ gB := wt_1 (List.mem_of_getElem? (i := 45) rfl) rfl
theorem q_71 : (Cond.methodLink RX0 97 yX0_draw) ∈ gB := wt_1 (List.mem_of_getElem? (i := 46) rfl) rfl
theorem q_72 : (Cond.instanceMethod yX0_draw) ∈ gB := wt_1 (List.mem_of_getElem? (i := 47) rfl) rfl
theorem q_73 : (Cond.selects RX0 yX0_draw yX0_draw) ∈ gB := wt_1 (List.mem_of_getElem? (i := 48) rfl) rfl
theorem q_74 : (Cond.code yX0_draw cX0_draw 8 none) ∈ gB := wt_1 (List.mem_of_getElem? (i := 49) rfl) rfl
theorem q_75 : (Cond.methodLink RX0 106 yX0_bitsBetween) ∈ gB := wt_1 (List.mem_of_getElem? (i := 50) rfl) rfl
theorem q_76 : (Cond.static yX0_bitsBetween) ∈ gB := wt_1 (List.mem_of_getElem? (i := 51) rfl) rfl
theorem q_77 : (Cond.code yX0_bitsBetween cX0_bitsBetween 2 (some .int)) ∈ gB := wt_1 (List.mem_of_getElem? (i := 52) rfl) rfl
theorem q_78 : (Cond.methodLink RX0 109 yX0_addBits) ∈ gB := wt_1 (List.mem_of_getElem? (i := 53) rfl) rfl
theorem q_79 : (Cond.static yX0_addBits) ∈ gB := wt_1 (List.mem_of_getElem? (i := 54) rfl) rfl
theorem q_80 : (Cond.code yX0_addBits cX0_addBits 5 none) ∈ gB := wt_1 (List.mem_of_getElem? (i := 55) rfl) rfl
theorem q_81 : (Cond.instanceMethod yX1_init) ∈ gB := wt_1 (List.mem_of_getElem? (i := 115) rfl) rfl
theorem q_82 : (Cond.code yX1_init cX1_init 1 none) ∈ gB := wt_1 (List.mem_of_getElem? (i := 116) rfl) rfl
theorem q_83 : (Cond.methodLink RX1 3 objectInit) ∈ gB := wt_1 (List.mem_of_getElem? (i := 117) rfl) rfl
theorem q_84 : (Cond.instanceMethod yX2_init) ∈ gB := wt_1 (List.mem_of_getElem? (i := 142) rfl) rfl
theorem q_85 : (Cond.code yX2_init cX2_init 1 none) ∈ gB := wt_1 (List.mem_of_getElem? (i := 143) rfl) rfl
theorem q_86 : (Cond.methodLink RX2 3 objectInit) ∈ gB := wt_1 (List.mem_of_getElem? (i := 144) rfl) rfl
theorem q_87 : (Cond.methodLink RL 12 yX4_init) ∈ gB := wt_2 (List.mem_of_getElem? (i := 211) rfl) rfl
theorem q_88 : (Cond.instanceMethod yX4_init) ∈ gB := wt_2 (List.mem_of_getElem? (i := 212) rfl) rfl
theorem q_89 : (Cond.code yX4_init cX4_init 1 none) ∈ gB := wt_2 (List.mem_of_getElem? (i := 213) rfl) rfl
theorem q_90 : (Cond.methodLink RX4 1 objectInit) ∈ gB := wt_2 (List.mem_of_getElem? (i := 214) rfl) rfl
theorem q_91 : (Cond.fieldLink RX4 7 "HingeCardsModel" "state" "[I") ∈ gB := wt_2 (List.mem_of_getElem? (i := 215) rfl) rfl
theorem q_92 : (Cond.fieldLink RX4 13 "HingeCardsModel" "images" "[I") ∈ gB := wt_2 (List.mem_of_getElem? (i := 216) rfl) rfl
theorem q_93 : (Cond.arrayClass .boolean) ∈ gB := wt_3 (List.mem_of_getElem? (i := 45) rfl) rfl
theorem q_94 : (Cond.fieldLink RX4 16 "HingeCardsModel" "isKept" "[Z") ∈ gB := wt_2 (List.mem_of_getElem? (i := 217) rfl) rfl
theorem q_95 : (Cond.fieldLink RX4 20 "HingeCardsModel" "faceWay" "[I") ∈ gB := wt_2 (List.mem_of_getElem? (i := 218) rfl) rfl
theorem q_96 : (Cond.fieldLink RX4 23 "HingeCardsModel" "faceP" "[I") ∈ gB := wt_2 (List.mem_of_getElem? (i := 219) rfl) rfl
theorem q_97 : (Cond.fieldLink RX4 26 "HingeCardsModel" "faceQ" "[I") ∈ gB := wt_2 (List.mem_of_getElem? (i := 220) rfl) rfl
theorem q_98 : (Cond.fieldLink RX4 29 "HingeCardsModel" "faceLong" "[I") ∈ gB := wt_2 (List.mem_of_getElem? (i := 221) rfl) rfl
theorem q_99 : (Cond.fieldLink RX4 32 "HingeCardsModel" "cornerP" "[I") ∈ gB := wt_2 (List.mem_of_getElem? (i := 223) rfl) rfl
theorem q_100 : (Cond.fieldLink RX4 35 "HingeCardsModel" "cornerQ" "[I") ∈ gB := wt_2 (List.mem_of_getElem? (i := 224) rfl) rfl
theorem q_101 : (Cond.fieldLink RX4 38 "HingeCardsModel" "cornerU" "[I") ∈ gB := wt_2 (List.mem_of_getElem? (i := 225) rfl) rfl
theorem q_102 : (Cond.fieldLink RX4 41 "HingeCardsModel" "cornerV" "[I") ∈ gB := wt_2 (List.mem_of_getElem? (i := 226) rfl) rfl
theorem q_103 : (Cond.fieldLink RX4 44 "HingeCardsModel" "alongP" "[I") ∈ gB := wt_2 (List.mem_of_getElem? (i := 228) rfl) rfl
theorem q_104 : (Cond.fieldLink RX4 47 "HingeCardsModel" "alongQ" "[I") ∈ gB := wt_2 (List.mem_of_getElem? (i := 229) rfl) rfl
theorem q_105 : (Cond.fieldLink RX4 50 "HingeCardsModel" "onFaces" "[I") ∈ gB := wt_2 (List.mem_of_getElem? (i := 230) rfl) rfl
theorem q_106 : (Cond.methodLink RL 13 yX3_size) ∈ gB := wt_1 (List.mem_of_getElem? (i := 181) rfl) rfl
theorem q_107 : (Cond.instanceMethod yX3_size) ∈ gB := wt_1 (List.mem_of_getElem? (i := 182) rfl) rfl
theorem q_108 : (Cond.selects RX3 yX3_size yX3_size) ∈ gB := wt_1 (List.mem_of_getElem? (i := 183) rfl) rfl
theorem q_109 : (Cond.code yX3_size cX3_size 3 (some .int)) ∈ gB := wt_1 (List.mem_of_getElem? (i := 184) rfl) rfl
theorem q_110 : (Cond.fieldLink RX3 44 "HingeCards$Card" "boxes" "I") ∈ gB := wt_1 (List.mem_of_getElem? (i := 59) rfl) rfl
theorem q_111 : (Cond.fieldLink RX3 47 "HingeCards$Card" "pageLength" "I") ∈ gB := wt_1 (List.mem_of_getElem? (i := 57) rfl) rfl
theorem q_112 : (Cond.methodLink RX3 40 yX3_isWithin) ∈ gB := wt_1 (List.mem_of_getElem? (i := 185) rfl) rfl
theorem q_113 : (Cond.static yX3_isWithin) ∈ gB := wt_1 (List.mem_of_getElem? (i := 186) rfl) rfl
theorem q_114 : (Cond.code yX3_isWithin cX3_isWithin 3 (some .boolean)) ∈ gB := wt_1 (List.mem_of_getElem? (i := 187) rfl) rfl
theorem q_115 : (Cond.methodLink RX3 50 yX0_begin) ∈ gB := wt_1 (List.mem_of_getElem? (i := 188) rfl) rfl
theorem q_116 : (Cond.methodLink RL 17 yX4_size) ∈ gB := wt_3 (List.mem_of_getElem? (i := 46) rfl) rfl
theorem q_117 : (Cond.instanceMethod yX4_size) ∈ gB := wt_3 (List.mem_of_getElem? (i := 47) rfl) rfl
theorem q_118 : (Cond.selects RX4 yX4_size yX4_size) ∈ gB := wt_3 (List.mem_of_getElem? (i := 48) rfl) rfl
theorem q_119 : (Cond.code yX4_size cX4_size 3 (some .int)) ∈ gB := wt_3 (List.mem_of_getElem? (i := 49) rfl) rfl
theorem q_120 : (Cond.methodLink RX4 82 yX4_in) ∈ gB := wt_3 (List.mem_of_getElem? (i := 50) rfl) rfl
theorem q_121 : (Cond.static yX4_in) ∈ gB := wt_3 (List.mem_of_getElem? (i := 51) rfl) rfl
theorem q_122 : (Cond.code yX4_in cX4_in 3 (some .boolean)) ∈ gB := wt_3 (List.mem_of_getElem? (i := 52) rfl) rfl
theorem q_123 : (Cond.methodLink RL 18 yX3_put) ∈ gB := wt_1 (List.mem_of_getElem? (i := 189) rfl) rfl
theorem q_124 : (Cond.instanceMethod yX3_put) ∈ gB := wt_1 (List.mem_of_getElem? (i := 190) rfl) rfl
theorem q_125 : (Cond.selects RX3 yX3_put yX3_put) ∈ gB := wt_1 (List.mem_of_getElem? (i := 191) rfl) rfl
theorem q_126 : (Cond.code yX3_put cX3_put 4 (some .int)) ∈ gB := wt_1 (List.mem_of_getElem? (i := 192) rfl) rfl
theorem q_127 : (Cond.methodLink RX3 54 yX0_hasCorner) ∈ gB := wt_1 (List.mem_of_getElem? (i := 193) rfl) rfl
theorem q_128 : (Cond.instanceMethod yX0_hasCorner) ∈ gB := wt_1 (List.mem_of_getElem? (i := 194) rfl) rfl
theorem q_129 : (Cond.selects RX0 yX0_hasCorner yX0_hasCorner) ∈ gB := wt_1 (List.mem_of_getElem? (i := 195) rfl) rfl
theorem q_130 : (Cond.code yX0_hasCorner cX0_hasCorner 2 (some .boolean)) ∈ gB := wt_1 (List.mem_of_getElem? (i := 196) rfl) rfl
theorem q_131 : (Cond.methodLink RX0 80 yX0_corners) ∈ gB := wt_1 (List.mem_of_getElem? (i := 197) rfl) rfl
theorem q_132 : (Cond.instanceMethod yX0_corners) ∈ gB := wt_1 (List.mem_of_getElem? (i := 198) rfl) rfl
theorem q_133 : (Cond.selects RX0 yX0_corners yX0_corners) ∈ gB := wt_1 (List.mem_of_getElem? (i := 199) rfl) rfl
theorem q_134 : (Cond.code yX0_corners cX0_corners 1 (some .int)) ∈ gB := wt_1 (List.mem_of_getElem? (i := 200) rfl) rfl
theorem q_135 : (Cond.methodLink RX3 58 yX3_areSides) ∈ gB := wt_1 (List.mem_of_getElem? (i := 201) rfl) rfl
theorem q_136 : (Cond.static yX3_areSides) ∈ gB := wt_1 (List.mem_of_getElem? (i := 202) rfl) rfl
theorem q_137 : (Cond.code yX3_areSides cX3_areSides 2 (some .boolean)) ∈ gB := wt_1 (List.mem_of_getElem? (i := 203) rfl) rfl
theorem q_138 : (Cond.methodLink RX3 62 yX0_isFull) ∈ gB := wt_1 (List.mem_of_getElem? (i := 204) rfl) rfl
theorem q_139 : (Cond.instanceMethod yX0_isFull) ∈ gB := wt_1 (List.mem_of_getElem? (i := 205) rfl) rfl
theorem q_140 : (Cond.selects RX0 yX0_isFull yX0_isFull) ∈ gB := wt_1 (List.mem_of_getElem? (i := 206) rfl) rfl
theorem q_141 : (Cond.code yX0_isFull cX0_isFull 1 (some .boolean)) ∈ gB := wt_1 (List.mem_of_getElem? (i := 207) rfl) rfl
theorem q_142 : (Cond.methodLink RX3 66 yX0_reasonAgainst) ∈ gB := wt_1 (List.mem_of_getElem? (i := 208) rfl) rfl
theorem q_143 : (Cond.instanceMethod yX0_reasonAgainst) ∈ gB := wt_1 (List.mem_of_getElem? (i := 209) rfl) rfl
theorem q_144 : (Cond.selects RX0 yX0_reasonAgainst yX0_reasonAgainst) ∈ gB := wt_1 (List.mem_of_getElem? (i := 210) rfl) rfl
theorem q_145 : (Cond.code yX0_reasonAgainst cX0_reasonAgainst 4 (some .int)) ∈ gB := wt_1 (List.mem_of_getElem? (i := 211) rfl) rfl
theorem q_146 : (Cond.methodLink RX0 121 yX0_reach) ∈ gB := wt_1 (List.mem_of_getElem? (i := 212) rfl) rfl
theorem q_147 : (Cond.instanceMethod yX0_reach) ∈ gB := wt_1 (List.mem_of_getElem? (i := 213) rfl) rfl
theorem q_148 : (Cond.selects RX0 yX0_reach yX0_reach) ∈ gB := wt_1 (List.mem_of_getElem? (i := 214) rfl) rfl
theorem q_149 : (Cond.code yX0_reach cX0_reach 9 (some .int)) ∈ gB := wt_1 (List.mem_of_getElem? (i := 215) rfl) rfl
theorem q_150 : (Cond.methodLink RX0 87 yX0_hasCorner) ∈ gB := wt_1 (List.mem_of_getElem? (i := 216) rfl) rfl
theorem q_151 : (Cond.methodLink RX0 113 yX0_bitsOf) ∈ gB := wt_1 (List.mem_of_getElem? (i := 217) rfl) rfl
theorem q_152 : (Cond.static yX0_bitsOf) ∈ gB := wt_1 (List.mem_of_getElem? (i := 218) rfl) rfl
theorem q_153 : (Cond.code yX0_bitsOf cX0_bitsOf 4 (some .int)) ∈ gB := wt_1 (List.mem_of_getElem? (i := 219) rfl) rfl
theorem q_154 : (Cond.static yX3_isBit) ∈ gB := wt_1 (List.mem_of_getElem? (i := 221) rfl) rfl
theorem q_155 : (Cond.code yX3_isBit cX3_isBit 2 (some .boolean)) ∈ gB := wt_1 (List.mem_of_getElem? (i := 222) rfl) rfl
theorem q_156 : (Cond.methodLink RX0 124 yX0_reasonWithinReach) ∈ gB := wt_1 (List.mem_of_getElem? (i := 223) rfl) rfl
theorem q_157 : (Cond.instanceMethod yX0_reasonWithinReach) ∈ gB := wt_1 (List.mem_of_getElem? (i := 224) rfl) rfl
theorem q_158 : (Cond.selects RX0 yX0_reasonWithinReach yX0_reasonWithinReach) ∈ gB := wt_1 (List.mem_of_getElem? (i := 225) rfl) rfl
theorem q_159 : (Cond.code yX0_reasonWithinReach cX0_reasonWithinReach 11 (some .int)) ∈ gB := wt_1 (List.mem_of_getElem? (i := 226) rfl) rfl
theorem q_160 : (Cond.methodLink RX0 128 yX0_isAnyTaken) ∈ gB := wt_1 (List.mem_of_getElem? (i := 227) rfl) rfl
theorem q_161 : (Cond.instanceMethod yX0_isAnyTaken) ∈ gB := wt_1 (List.mem_of_getElem? (i := 228) rfl) rfl
theorem q_162 : (Cond.selects RX0 yX0_isAnyTaken yX0_isAnyTaken) ∈ gB := wt_1 (List.mem_of_getElem? (i := 229) rfl) rfl
theorem q_163 : (Cond.code yX0_isAnyTaken cX0_isAnyTaken 9 (some .boolean)) ∈ gB := wt_1 (List.mem_of_getElem? (i := 230) rfl) rfl
theorem q_164 : (Cond.methodLink RX0 91 Lib.Math.min.name) ∈ gB := wt_1 (List.mem_of_getElem? (i := 231) rfl) rfl
theorem q_165 : (Cond.static Lib.Math.min.name) ∈ gB := wt_1 (List.mem_of_getElem? (i := 232) rfl) rfl
theorem q_166 : (Cond.initialized "java/lang/Math") ∈ gB := wt_1 (List.mem_of_getElem? (i := 7) rfl) rfl
theorem q_167 : (Cond.code Lib.Math.min.name Lib.Math.min.code 2 (some .int)) ∈ gB := wt_1 (List.mem_of_getElem? (i := 233) rfl) rfl
theorem q_168 : (Cond.methodLink RX0 132 Lib.Math.max.name) ∈ gB := wt_1 (List.mem_of_getElem? (i := 234) rfl) rfl
theorem q_169 : (Cond.static Lib.Math.max.name) ∈ gB := wt_1 (List.mem_of_getElem? (i := 235) rfl) rfl
theorem q_170 : (Cond.code Lib.Math.max.name Lib.Math.max.code 2 (some .int)) ∈ gB := wt_1 (List.mem_of_getElem? (i := 236) rfl) rfl
theorem q_171 : (Cond.methodLink RX3 70 yX0_addBox) ∈ gB := wt_1 (List.mem_of_getElem? (i := 237) rfl) rfl
theorem q_172 : (Cond.instanceMethod yX0_addBox) ∈ gB := wt_1 (List.mem_of_getElem? (i := 238) rfl) rfl
theorem q_173 : (Cond.selects RX0 yX0_addBox yX0_addBox) ∈ gB := wt_1 (List.mem_of_getElem? (i := 239) rfl) rfl
theorem q_174 : (Cond.code yX0_addBox cX0_addBox 12 none) ∈ gB := wt_2 (List.mem_of_getElem? (i := 0) rfl) rfl
theorem q_175 : (Cond.methodLink RX0 83 yX0_isFull) ∈ gB := wt_2 (List.mem_of_getElem? (i := 1) rfl) rfl
theorem q_176 : (Cond.methodLink RX3 74 yX0_faces) ∈ gB := wt_2 (List.mem_of_getElem? (i := 2) rfl) rfl
theorem q_177 : (Cond.methodLink RL 22 yX4_put) ∈ gB := wt_3 (List.mem_of_getElem? (i := 53) rfl) rfl
theorem q_178 : (Cond.instanceMethod yX4_put) ∈ gB := wt_3 (List.mem_of_getElem? (i := 54) rfl) rfl
theorem q_179 : (Cond.selects RX4 yX4_put yX4_put) ∈ gB := wt_3 (List.mem_of_getElem? (i := 55) rfl) rfl
theorem q_180 : (Cond.code yX4_put cX4_put 5 (some .int)) ∈ gB := wt_3 (List.mem_of_getElem? (i := 56) rfl) rfl
theorem q_181 : (Cond.fieldLink RX4 57 "HingeCardsModel" "faces" "I") ∈ gB := wt_2 (List.mem_of_getElem? (i := 222) rfl) rfl
theorem q_182 : (Cond.methodLink RX4 100 yX4_lay) ∈ gB := wt_3 (List.mem_of_getElem? (i := 57) rfl) rfl
theorem q_183 : (Cond.instanceMethod yX4_lay) ∈ gB := wt_3 (List.mem_of_getElem? (i := 59) rfl) rfl
theorem q_184 : (Cond.selects RX4 yX4_lay yX4_lay) ∈ gB := wt_s (List.mem_of_getElem? (i := 1) rfl) rfl
theorem q_185 : (Cond.code yX4_lay cX4_lay 2 none) ∈ gB := wt_3 (List.mem_of_getElem? (i := 60) rfl) rfl
theorem q_186 : (Cond.fieldLink RX4 65 "HingeCardsModel" "corners" "I") ∈ gB := wt_2 (List.mem_of_getElem? (i := 227) rfl) rfl
theorem q_187 : (Cond.methodLink RX4 71 yX4_addFace) ∈ gB := wt_3 (List.mem_of_getElem? (i := 61) rfl) rfl
theorem q_188 : (Cond.instanceMethod yX4_addFace) ∈ gB := wt_3 (List.mem_of_getElem? (i := 63) rfl) rfl
theorem q_189 : (Cond.selects RX4 yX4_addFace yX4_addFace) ∈ gB := wt_s (List.mem_of_getElem? (i := 2) rfl) rfl
theorem q_190 : (Cond.code yX4_addFace cX4_addFace 5 none) ∈ gB := wt_3 (List.mem_of_getElem? (i := 64) rfl) rfl
theorem q_191 : (Cond.methodLink RX4 61 yX4_mark) ∈ gB := wt_3 (List.mem_of_getElem? (i := 65) rfl) rfl
theorem q_192 : (Cond.instanceMethod yX4_mark) ∈ gB := wt_3 (List.mem_of_getElem? (i := 67) rfl) rfl
theorem q_193 : (Cond.selects RX4 yX4_mark yX4_mark) ∈ gB := wt_s (List.mem_of_getElem? (i := 3) rfl) rfl
theorem q_194 : (Cond.code yX4_mark cX4_mark 5 none) ∈ gB := wt_3 (List.mem_of_getElem? (i := 68) rfl) rfl
theorem q_195 : (Cond.methodLink RX4 53 yX4_at) ∈ gB := wt_3 (List.mem_of_getElem? (i := 69) rfl) rfl
theorem q_196 : (Cond.static yX4_at) ∈ gB := wt_3 (List.mem_of_getElem? (i := 70) rfl) rfl
theorem q_197 : (Cond.code yX4_at cX4_at 2 (some .int)) ∈ gB := wt_3 (List.mem_of_getElem? (i := 71) rfl) rfl
theorem q_198 : (Cond.methodLink RX4 75 yX4_addCorner) ∈ gB := wt_3 (List.mem_of_getElem? (i := 72) rfl) rfl
theorem q_199 : (Cond.instanceMethod yX4_addCorner) ∈ gB := wt_3 (List.mem_of_getElem? (i := 74) rfl) rfl
theorem q_200 : (Cond.selects RX4 yX4_addCorner yX4_addCorner) ∈ gB := wt_s (List.mem_of_getElem? (i := 4) rfl) rfl
theorem q_201 : (Cond.code yX4_addCorner cX4_addCorner 5 none) ∈ gB := wt_3 (List.mem_of_getElem? (i := 75) rfl) rfl
theorem q_202 : (Cond.methodLink RX4 78 yX4_push) ∈ gB := wt_3 (List.mem_of_getElem? (i := 76) rfl) rfl
theorem q_203 : (Cond.instanceMethod yX4_push) ∈ gB := wt_3 (List.mem_of_getElem? (i := 78) rfl) rfl
theorem q_204 : (Cond.selects RX4 yX4_push yX4_push) ∈ gB := wt_s (List.mem_of_getElem? (i := 5) rfl) rfl
theorem q_205 : (Cond.code yX4_push cX4_push 10 none) ∈ gB := wt_3 (List.mem_of_getElem? (i := 79) rfl) rfl
theorem q_206 : (Cond.methodLink RX4 68 yX4_less) ∈ gB := wt_3 (List.mem_of_getElem? (i := 80) rfl) rfl
theorem q_207 : (Cond.static yX4_less) ∈ gB := wt_3 (List.mem_of_getElem? (i := 81) rfl) rfl
theorem q_208 : (Cond.code yX4_less cX4_less 2 (some .int)) ∈ gB := wt_3 (List.mem_of_getElem? (i := 82) rfl) rfl
theorem q_209 : (Cond.methodLink RX4 103 yX4_isCorner) ∈ gB := wt_3 (List.mem_of_getElem? (i := 83) rfl) rfl
theorem q_210 : (Cond.instanceMethod yX4_isCorner) ∈ gB := wt_3 (List.mem_of_getElem? (i := 85) rfl) rfl
theorem q_211 : (Cond.selects RX4 yX4_isCorner yX4_isCorner) ∈ gB := wt_s (List.mem_of_getElem? (i := 6) rfl) rfl
theorem q_212 : (Cond.code yX4_isCorner cX4_isCorner 2 (some .boolean)) ∈ gB := wt_3 (List.mem_of_getElem? (i := 86) rfl) rfl
theorem q_213 : (Cond.methodLink RX4 107 yX4_whyNot) ∈ gB := wt_3 (List.mem_of_getElem? (i := 87) rfl) rfl
theorem q_214 : (Cond.instanceMethod yX4_whyNot) ∈ gB := wt_3 (List.mem_of_getElem? (i := 89) rfl) rfl
theorem q_215 : (Cond.selects RX4 yX4_whyNot yX4_whyNot) ∈ gB := wt_s (List.mem_of_getElem? (i := 7) rfl) rfl
theorem q_216 : (Cond.code yX4_whyNot cX4_whyNot 4 (some .int)) ∈ gB := wt_3 (List.mem_of_getElem? (i := 90) rfl) rfl
theorem q_217 : (Cond.methodLink RX4 94 yX4_reach) ∈ gB := wt_3 (List.mem_of_getElem? (i := 91) rfl) rfl
theorem q_218 : (Cond.instanceMethod yX4_reach) ∈ gB := wt_3 (List.mem_of_getElem? (i := 93) rfl) rfl
theorem q_219 : (Cond.selects RX4 yX4_reach yX4_reach) ∈ gB := wt_s (List.mem_of_getElem? (i := 8) rfl) rfl
theorem q_220 : (Cond.code yX4_reach cX4_reach 5 (some .int)) ∈ gB := wt_3 (List.mem_of_getElem? (i := 94) rfl) rfl
theorem q_221 : (Cond.methodLink RX4 86 yX4_isPiece) ∈ gB := wt_3 (List.mem_of_getElem? (i := 95) rfl) rfl
theorem q_222 : (Cond.instanceMethod yX4_isPiece) ∈ gB := wt_3 (List.mem_of_getElem? (i := 97) rfl) rfl
theorem q_223 : (Cond.selects RX4 yX4_isPiece yX4_isPiece) ∈ gB := wt_s (List.mem_of_getElem? (i := 9) rfl) rfl
theorem q_224 : (Cond.code yX4_isPiece cX4_isPiece 7 (some .boolean)) ∈ gB := wt_3 (List.mem_of_getElem? (i := 98) rfl) rfl
theorem q_225 : (Cond.methodLink RX4 97 yX4_hits) ∈ gB := wt_3 (List.mem_of_getElem? (i := 99) rfl) rfl
theorem q_226 : (Cond.instanceMethod yX4_hits) ∈ gB := wt_3 (List.mem_of_getElem? (i := 101) rfl) rfl
theorem q_227 : (Cond.selects RX4 yX4_hits yX4_hits) ∈ gB := wt_s (List.mem_of_getElem? (i := 10) rfl) rfl
theorem q_228 : (Cond.code yX4_hits cX4_hits 10 (some .boolean)) ∈ gB := wt_3 (List.mem_of_getElem? (i := 102) rfl) rfl
theorem q_229 : (Cond.methodLink RX4 90 yX4_isFree) ∈ gB := wt_3 (List.mem_of_getElem? (i := 103) rfl) rfl
theorem q_230 : (Cond.instanceMethod yX4_isFree) ∈ gB := wt_3 (List.mem_of_getElem? (i := 105) rfl) rfl
theorem q_231 : (Cond.selects RX4 yX4_isFree yX4_isFree) ∈ gB := wt_s (List.mem_of_getElem? (i := 11) rfl) rfl
theorem q_232 : (Cond.code yX4_isFree cX4_isFree 3 (some .boolean)) ∈ gB := wt_3 (List.mem_of_getElem? (i := 106) rfl) rfl
theorem q_233 : (Cond.methodLink RL 23 yX3_off) ∈ gB := wt_2 (List.mem_of_getElem? (i := 3) rfl) rfl
theorem q_234 : (Cond.instanceMethod yX3_off) ∈ gB := wt_2 (List.mem_of_getElem? (i := 4) rfl) rfl
theorem q_235 : (Cond.selects RX3 yX3_off yX3_off) ∈ gB := wt_2 (List.mem_of_getElem? (i := 5) rfl) rfl
theorem q_236 : (Cond.code yX3_off cX3_off 1 (some .int)) ∈ gB := wt_2 (List.mem_of_getElem? (i := 6) rfl) rfl
theorem q_237 : (Cond.methodLink RX3 78 yX0_dropBox) ∈ gB := wt_2 (List.mem_of_getElem? (i := 7) rfl) rfl
theorem q_238 : (Cond.instanceMethod yX0_dropBox) ∈ gB := wt_2 (List.mem_of_getElem? (i := 8) rfl) rfl
theorem q_239 : (Cond.selects RX0 yX0_dropBox yX0_dropBox) ∈ gB := wt_2 (List.mem_of_getElem? (i := 9) rfl) rfl
theorem q_240 : (Cond.code yX0_dropBox cX0_dropBox 1 none) ∈ gB := wt_2 (List.mem_of_getElem? (i := 10) rfl) rfl
theorem q_241 : (Cond.methodLink RL 27 yX4_off) ∈ gB := wt_3 (List.mem_of_getElem? (i := 107) rfl) rfl
theorem q_242 : (Cond.instanceMethod yX4_off) ∈ gB := wt_3 (List.mem_of_getElem? (i := 108) rfl) rfl
theorem q_243 : (Cond.selects RX4 yX4_off yX4_off) ∈ gB := wt_3 (List.mem_of_getElem? (i := 109) rfl) rfl
theorem q_244 : (Cond.code yX4_off cX4_off 1 (some .int)) ∈ gB := wt_3 (List.mem_of_getElem? (i := 110) rfl) rfl
theorem q_245 : (Cond.methodLink RL 28 yX3_why) ∈ gB := wt_2 (List.mem_of_getElem? (i := 11) rfl) rfl
theorem q_246 : (Cond.instanceMethod yX3_why) ∈ gB := wt_2 (List.mem_of_getElem? (i := 12) rfl) rfl
theorem q_247 : (Cond.selects RX3 yX3_why yX3_why) ∈ gB := wt_2 (List.mem_of_getElem? (i := 13) rfl) rfl
theorem q_248 : (Cond.code yX3_why cX3_why 4 (some .int)) ∈ gB := wt_2 (List.mem_of_getElem? (i := 14) rfl) rfl
theorem q_249 : (Cond.methodLink RL 31 yX4_why) ∈ gB := wt_3 (List.mem_of_getElem? (i := 111) rfl) rfl
theorem q_250 : (Cond.instanceMethod yX4_why) ∈ gB := wt_3 (List.mem_of_getElem? (i := 112) rfl) rfl
theorem q_251 : (Cond.selects RX4 yX4_why yX4_why) ∈ gB := wt_3 (List.mem_of_getElem? (i := 113) rfl) rfl
theorem q_252 : (Cond.code yX4_why cX4_why 4 (some .int)) ∈ gB := wt_3 (List.mem_of_getElem? (i := 114) rfl) rfl
theorem q_253 : (Cond.methodLink RL 32 yX3_corner) ∈ gB := wt_2 (List.mem_of_getElem? (i := 15) rfl) rfl
theorem q_254 : (Cond.instanceMethod yX3_corner) ∈ gB := wt_2 (List.mem_of_getElem? (i := 16) rfl) rfl
theorem q_255 : (Cond.selects RX3 yX3_corner yX3_corner) ∈ gB := wt_2 (List.mem_of_getElem? (i := 17) rfl) rfl
theorem q_256 : (Cond.code yX3_corner cX3_corner 3 (some .int)) ∈ gB := wt_2 (List.mem_of_getElem? (i := 18) rfl) rfl
theorem q_257 : (Cond.fieldLink RX3 81 "HingeCards$Card" "cornerP" "[I") ∈ gB := wt_1 (List.mem_of_getElem? (i := 71) rfl) rfl
theorem q_258 : (Cond.fieldLink RX3 85 "HingeCards$Card" "cornerQ" "[I") ∈ gB := wt_1 (List.mem_of_getElem? (i := 73) rfl) rfl
theorem q_259 : (Cond.fieldLink RX3 88 "HingeCards$Card" "cornerU" "[I") ∈ gB := wt_1 (List.mem_of_getElem? (i := 75) rfl) rfl
theorem q_260 : (Cond.fieldLink RX3 91 "HingeCards$Card" "cornerV" "[I") ∈ gB := wt_1 (List.mem_of_getElem? (i := 77) rfl) rfl
theorem q_261 : (Cond.methodLink RX3 94 yX0_reach) ∈ gB := wt_2 (List.mem_of_getElem? (i := 19) rfl) rfl
theorem q_262 : (Cond.methodLink RL 36 yX4_corner) ∈ gB := wt_3 (List.mem_of_getElem? (i := 115) rfl) rfl
theorem q_263 : (Cond.instanceMethod yX4_corner) ∈ gB := wt_3 (List.mem_of_getElem? (i := 116) rfl) rfl
theorem q_264 : (Cond.selects RX4 yX4_corner yX4_corner) ∈ gB := wt_3 (List.mem_of_getElem? (i := 117) rfl) rfl
theorem q_265 : (Cond.code yX4_corner cX4_corner 3 (some .int)) ∈ gB := wt_3 (List.mem_of_getElem? (i := 118) rfl) rfl
theorem q_266 : (Cond.methodLink RL 37 yX3_face) ∈ gB := wt_2 (List.mem_of_getElem? (i := 20) rfl) rfl
theorem q_267 : (Cond.instanceMethod yX3_face) ∈ gB := wt_2 (List.mem_of_getElem? (i := 21) rfl) rfl
theorem q_268 : (Cond.selects RX3 yX3_face yX3_face) ∈ gB := wt_2 (List.mem_of_getElem? (i := 22) rfl) rfl
theorem q_269 : (Cond.code yX3_face cX3_face 3 (some .int)) ∈ gB := wt_2 (List.mem_of_getElem? (i := 23) rfl) rfl
theorem q_270 : (Cond.fieldLink RX3 101 "HingeCards$Card" "faceAlong" "[I") ∈ gB := wt_1 (List.mem_of_getElem? (i := 65) rfl) rfl
theorem q_271 : (Cond.fieldLink RX3 111 "HingeCards$Card" "faceLength" "[I") ∈ gB := wt_1 (List.mem_of_getElem? (i := 69) rfl) rfl
theorem q_272 : (Cond.methodLink RX3 98 yX0_hasFace) ∈ gB := wt_2 (List.mem_of_getElem? (i := 24) rfl) rfl
theorem q_273 : (Cond.instanceMethod yX0_hasFace) ∈ gB := wt_2 (List.mem_of_getElem? (i := 25) rfl) rfl
theorem q_274 : (Cond.selects RX0 yX0_hasFace yX0_hasFace) ∈ gB := wt_2 (List.mem_of_getElem? (i := 26) rfl) rfl
theorem q_275 : (Cond.code yX0_hasFace cX0_hasFace 2 (some .boolean)) ∈ gB := wt_2 (List.mem_of_getElem? (i := 27) rfl) rfl
theorem q_276 : (Cond.methodLink RX3 104 yX0_firstP) ∈ gB := wt_2 (List.mem_of_getElem? (i := 28) rfl) rfl
theorem q_277 : (Cond.instanceMethod yX0_firstP) ∈ gB := wt_2 (List.mem_of_getElem? (i := 29) rfl) rfl
theorem q_278 : (Cond.selects RX0 yX0_firstP yX0_firstP) ∈ gB := wt_2 (List.mem_of_getElem? (i := 30) rfl) rfl
theorem q_279 : (Cond.code yX0_firstP cX0_firstP 2 (some .int)) ∈ gB := wt_2 (List.mem_of_getElem? (i := 31) rfl) rfl
theorem q_280 : (Cond.methodLink RX0 135 yX0_hasFace) ∈ gB := wt_2 (List.mem_of_getElem? (i := 32) rfl) rfl
theorem q_281 : (Cond.methodLink RX3 108 yX0_firstQ) ∈ gB := wt_2 (List.mem_of_getElem? (i := 33) rfl) rfl
theorem q_282 : (Cond.instanceMethod yX0_firstQ) ∈ gB := wt_2 (List.mem_of_getElem? (i := 34) rfl) rfl
theorem q_283 : (Cond.selects RX0 yX0_firstQ yX0_firstQ) ∈ gB := wt_2 (List.mem_of_getElem? (i := 35) rfl) rfl
theorem q_284 : (Cond.code yX0_firstQ cX0_firstQ 2 (some .int)) ∈ gB := wt_2 (List.mem_of_getElem? (i := 36) rfl) rfl
theorem q_285 : (Cond.methodLink RL 40 yX4_face) ∈ gB := wt_3 (List.mem_of_getElem? (i := 119) rfl) rfl
theorem q_286 : (Cond.instanceMethod yX4_face) ∈ gB := wt_3 (List.mem_of_getElem? (i := 120) rfl) rfl
theorem q_287 : (Cond.selects RX4 yX4_face yX4_face) ∈ gB := wt_3 (List.mem_of_getElem? (i := 121) rfl) rfl
theorem q_288 : (Cond.code yX4_face cX4_face 3 (some .int)) ∈ gB := wt_3 (List.mem_of_getElem? (i := 122) rfl) rfl
theorem q_289 : (Cond.methodLink RX4 111 yX4_isFace) ∈ gB := wt_3 (List.mem_of_getElem? (i := 123) rfl) rfl
theorem q_290 : (Cond.instanceMethod yX4_isFace) ∈ gB := wt_3 (List.mem_of_getElem? (i := 125) rfl) rfl
theorem q_291 : (Cond.selects RX4 yX4_isFace yX4_isFace) ∈ gB := wt_s (List.mem_of_getElem? (i := 12) rfl) rfl
theorem q_292 : (Cond.code yX4_isFace cX4_isFace 2 (some .boolean)) ∈ gB := wt_3 (List.mem_of_getElem? (i := 126) rfl) rfl
theorem q_293 : (Cond.methodLink RL 41 yX3_on) ∈ gB := wt_2 (List.mem_of_getElem? (i := 37) rfl) rfl
theorem q_294 : (Cond.instanceMethod yX3_on) ∈ gB := wt_2 (List.mem_of_getElem? (i := 38) rfl) rfl
theorem q_295 : (Cond.selects RX3 yX3_on yX3_on) ∈ gB := wt_2 (List.mem_of_getElem? (i := 39) rfl) rfl
theorem q_296 : (Cond.code yX3_on cX3_on 3 (some .int)) ∈ gB := wt_2 (List.mem_of_getElem? (i := 40) rfl) rfl
theorem q_297 : (Cond.methodLink RX3 114 yX0_facesOn) ∈ gB := wt_2 (List.mem_of_getElem? (i := 41) rfl) rfl
theorem q_298 : (Cond.instanceMethod yX0_facesOn) ∈ gB := wt_2 (List.mem_of_getElem? (i := 42) rfl) rfl
theorem q_299 : (Cond.selects RX0 yX0_facesOn yX0_facesOn) ∈ gB := wt_2 (List.mem_of_getElem? (i := 43) rfl) rfl
theorem q_300 : (Cond.code yX0_facesOn cX0_facesOn 5 (some .int)) ∈ gB := wt_2 (List.mem_of_getElem? (i := 44) rfl) rfl
theorem q_301 : (Cond.methodLink RX0 138 yX0_firstP) ∈ gB := wt_2 (List.mem_of_getElem? (i := 45) rfl) rfl
theorem q_302 : (Cond.methodLink RX0 142 yX0_lastP) ∈ gB := wt_2 (List.mem_of_getElem? (i := 46) rfl) rfl
theorem q_303 : (Cond.instanceMethod yX0_lastP) ∈ gB := wt_2 (List.mem_of_getElem? (i := 47) rfl) rfl
theorem q_304 : (Cond.selects RX0 yX0_lastP yX0_lastP) ∈ gB := wt_2 (List.mem_of_getElem? (i := 48) rfl) rfl
theorem q_305 : (Cond.code yX0_lastP cX0_lastP 2 (some .int)) ∈ gB := wt_2 (List.mem_of_getElem? (i := 49) rfl) rfl
theorem q_306 : (Cond.methodLink RX0 149 yX0_firstQ) ∈ gB := wt_2 (List.mem_of_getElem? (i := 51) rfl) rfl
theorem q_307 : (Cond.methodLink RX0 152 yX0_lastQ) ∈ gB := wt_2 (List.mem_of_getElem? (i := 52) rfl) rfl
theorem q_308 : (Cond.instanceMethod yX0_lastQ) ∈ gB := wt_2 (List.mem_of_getElem? (i := 53) rfl) rfl
theorem q_309 : (Cond.selects RX0 yX0_lastQ yX0_lastQ) ∈ gB := wt_2 (List.mem_of_getElem? (i := 54) rfl) rfl
theorem q_310 : (Cond.code yX0_lastQ cX0_lastQ 2 (some .int)) ∈ gB := wt_2 (List.mem_of_getElem? (i := 55) rfl) rfl
theorem q_311 : (Cond.methodLink RL 44 yX4_on) ∈ gB := wt_3 (List.mem_of_getElem? (i := 127) rfl) rfl
theorem q_312 : (Cond.instanceMethod yX4_on) ∈ gB := wt_3 (List.mem_of_getElem? (i := 128) rfl) rfl
theorem q_313 : (Cond.selects RX4 yX4_on yX4_on) ∈ gB := wt_3 (List.mem_of_getElem? (i := 129) rfl) rfl
theorem q_314 : (Cond.code yX4_on cX4_on 3 (some .int)) ∈ gB := wt_3 (List.mem_of_getElem? (i := 130) rfl) rfl
theorem q_315 : (Cond.methodLink RL 45 yX3_ways) ∈ gB := wt_2 (List.mem_of_getElem? (i := 56) rfl) rfl
theorem q_316 : (Cond.instanceMethod yX3_ways) ∈ gB := wt_2 (List.mem_of_getElem? (i := 57) rfl) rfl
theorem q_317 : (Cond.selects RX3 yX3_ways yX3_ways) ∈ gB := wt_2 (List.mem_of_getElem? (i := 58) rfl) rfl
theorem q_318 : (Cond.code yX3_ways cX3_ways 1 (some .int)) ∈ gB := wt_2 (List.mem_of_getElem? (i := 59) rfl) rfl
theorem q_319 : (Cond.fieldLink RX3 121 "HingeCards$Search" "ways" "I") ∈ gB := wt_1 (List.mem_of_getElem? (i := 119) rfl) rfl
theorem q_320 : (Cond.methodLink RX3 117 yX1_sweep) ∈ gB := wt_2 (List.mem_of_getElem? (i := 60) rfl) rfl
theorem q_321 : (Cond.instanceMethod yX1_sweep) ∈ gB := wt_2 (List.mem_of_getElem? (i := 61) rfl) rfl
theorem q_322 : (Cond.selects RX1 yX1_sweep yX1_sweep) ∈ gB := wt_2 (List.mem_of_getElem? (i := 62) rfl) rfl
theorem q_323 : (Cond.code yX1_sweep cX1_sweep 8 none) ∈ gB := wt_2 (List.mem_of_getElem? (i := 63) rfl) rfl
theorem q_324 : (Cond.fieldLink RX1 9 "HingeCards$Search" "ways" "I") ∈ gB := wt_1 (List.mem_of_getElem? (i := 118) rfl) rfl
theorem q_325 : (Cond.fieldLink RX1 15 "HingeCards$Search" "bestSize" "I") ∈ gB := wt_1 (List.mem_of_getElem? (i := 120) rfl) rfl
theorem q_326 : (Cond.methodLink RX1 18 yX0_isFull) ∈ gB := wt_2 (List.mem_of_getElem? (i := 64) rfl) rfl
theorem q_327 : (Cond.methodLink RX1 24 yX0_corners) ∈ gB := wt_2 (List.mem_of_getElem? (i := 65) rfl) rfl
theorem q_328 : (Cond.methodLink RX1 28 yX0_reach) ∈ gB := wt_2 (List.mem_of_getElem? (i := 66) rfl) rfl
theorem q_329 : (Cond.methodLink RX1 32 yX0_reasonWithinReach) ∈ gB := wt_2 (List.mem_of_getElem? (i := 67) rfl) rfl
theorem q_330 : (Cond.methodLink RX1 36 yX1_meet) ∈ gB := wt_2 (List.mem_of_getElem? (i := 68) rfl) rfl
theorem q_331 : (Cond.instanceMethod yX1_meet) ∈ gB := wt_2 (List.mem_of_getElem? (i := 69) rfl) rfl
theorem q_332 : (Cond.selects RX1 yX1_meet yX1_meet) ∈ gB := wt_2 (List.mem_of_getElem? (i := 70) rfl) rfl
theorem q_333 : (Cond.code yX1_meet cX1_meet 4 none) ∈ gB := wt_2 (List.mem_of_getElem? (i := 71) rfl) rfl
theorem q_334 : (Cond.fieldLink RX1 40 "HingeCards$Search" "bestCorner" "I") ∈ gB := wt_1 (List.mem_of_getElem? (i := 122) rfl) rfl
theorem q_335 : (Cond.fieldLink RX1 43 "HingeCards$Search" "bestA" "I") ∈ gB := wt_1 (List.mem_of_getElem? (i := 124) rfl) rfl
theorem q_336 : (Cond.fieldLink RX1 46 "HingeCards$Search" "bestB" "I") ∈ gB := wt_1 (List.mem_of_getElem? (i := 126) rfl) rfl
theorem q_337 : (Cond.methodLink RL 48 yX4_ways) ∈ gB := wt_3 (List.mem_of_getElem? (i := 131) rfl) rfl
theorem q_338 : (Cond.instanceMethod yX4_ways) ∈ gB := wt_3 (List.mem_of_getElem? (i := 132) rfl) rfl
theorem q_339 : (Cond.selects RX4 yX4_ways yX4_ways) ∈ gB := wt_3 (List.mem_of_getElem? (i := 133) rfl) rfl
theorem q_340 : (Cond.code yX4_ways cX4_ways 1 (some .int)) ∈ gB := wt_3 (List.mem_of_getElem? (i := 134) rfl) rfl
theorem q_341 : (Cond.fieldLink RX4 114 "HingeCardsModel" "ways" "I") ∈ gB := wt_2 (List.mem_of_getElem? (i := 231) rfl) rfl
theorem q_342 : (Cond.methodLink RX4 132 yX4_layWays) ∈ gB := wt_3 (List.mem_of_getElem? (i := 135) rfl) rfl
theorem q_343 : (Cond.instanceMethod yX4_layWays) ∈ gB := wt_3 (List.mem_of_getElem? (i := 137) rfl) rfl
theorem q_344 : (Cond.selects RX4 yX4_layWays yX4_layWays) ∈ gB := wt_s (List.mem_of_getElem? (i := 13) rfl) rfl
theorem q_345 : (Cond.code yX4_layWays cX4_layWays 7 none) ∈ gB := wt_3 (List.mem_of_getElem? (i := 138) rfl) rfl
theorem q_346 : (Cond.fieldLink RX4 117 "HingeCardsModel" "best" "I") ∈ gB := wt_2 (List.mem_of_getElem? (i := 232) rfl) rfl
theorem q_347 : (Cond.fieldLink RX4 120 "HingeCardsModel" "bestCorner" "I") ∈ gB := wt_2 (List.mem_of_getElem? (i := 233) rfl) rfl
theorem q_348 : (Cond.fieldLink RX4 123 "HingeCardsModel" "bestA" "I") ∈ gB := wt_2 (List.mem_of_getElem? (i := 234) rfl) rfl
theorem q_349 : (Cond.fieldLink RX4 126 "HingeCardsModel" "bestB" "I") ∈ gB := wt_2 (List.mem_of_getElem? (i := 235) rfl) rfl
theorem q_350 : (Cond.methodLink RX4 129 yX4_keepBest) ∈ gB := wt_3 (List.mem_of_getElem? (i := 139) rfl) rfl
theorem q_351 : (Cond.instanceMethod yX4_keepBest) ∈ gB := wt_3 (List.mem_of_getElem? (i := 141) rfl) rfl
theorem q_352 : (Cond.selects RX4 yX4_keepBest yX4_keepBest) ∈ gB := wt_s (List.mem_of_getElem? (i := 14) rfl) rfl
theorem q_353 : (Cond.code yX4_keepBest cX4_keepBest 4 none) ∈ gB := wt_3 (List.mem_of_getElem? (i := 142) rfl) rfl
theorem q_354 : (Cond.methodLink RL 49 yX3_greatest) ∈ gB := wt_2 (List.mem_of_getElem? (i := 72) rfl) rfl
theorem q_355 : (Cond.instanceMethod yX3_greatest) ∈ gB := wt_2 (List.mem_of_getElem? (i := 73) rfl) rfl
theorem q_356 : (Cond.selects RX3 yX3_greatest yX3_greatest) ∈ gB := wt_2 (List.mem_of_getElem? (i := 74) rfl) rfl
theorem q_357 : (Cond.code yX3_greatest cX3_greatest 2 (some .int)) ∈ gB := wt_2 (List.mem_of_getElem? (i := 75) rfl) rfl
theorem q_358 : (Cond.fieldLink RX3 124 "HingeCards$Search" "bestSize" "I") ∈ gB := wt_1 (List.mem_of_getElem? (i := 121) rfl) rfl
theorem q_359 : (Cond.fieldLink RX3 127 "HingeCards$Search" "bestCorner" "I") ∈ gB := wt_1 (List.mem_of_getElem? (i := 123) rfl) rfl
theorem q_360 : (Cond.fieldLink RX3 130 "HingeCards$Search" "bestA" "I") ∈ gB := wt_1 (List.mem_of_getElem? (i := 125) rfl) rfl
theorem q_361 : (Cond.fieldLink RX3 133 "HingeCards$Search" "bestB" "I") ∈ gB := wt_1 (List.mem_of_getElem? (i := 127) rfl) rfl
theorem q_362 : (Cond.methodLink RL 52 yX4_greatest) ∈ gB := wt_3 (List.mem_of_getElem? (i := 143) rfl) rfl
theorem q_363 : (Cond.instanceMethod yX4_greatest) ∈ gB := wt_3 (List.mem_of_getElem? (i := 144) rfl) rfl
theorem q_364 : (Cond.selects RX4 yX4_greatest yX4_greatest) ∈ gB := wt_3 (List.mem_of_getElem? (i := 145) rfl) rfl
theorem q_365 : (Cond.code yX4_greatest cX4_greatest 2 (some .int)) ∈ gB := wt_3 (List.mem_of_getElem? (i := 146) rfl) rfl
theorem q_366 : (Cond.methodLink RL 53 yX3_two) ∈ gB := wt_2 (List.mem_of_getElem? (i := 76) rfl) rfl
theorem q_367 : (Cond.instanceMethod yX3_two) ∈ gB := wt_2 (List.mem_of_getElem? (i := 77) rfl) rfl
theorem q_368 : (Cond.selects RX3 yX3_two yX3_two) ∈ gB := wt_2 (List.mem_of_getElem? (i := 78) rfl) rfl
theorem q_369 : (Cond.code yX3_two cX3_two 2 (some .int)) ∈ gB := wt_2 (List.mem_of_getElem? (i := 79) rfl) rfl
theorem q_370 : (Cond.methodLink RX3 136 yX1_bestTwo) ∈ gB := wt_2 (List.mem_of_getElem? (i := 80) rfl) rfl
theorem q_371 : (Cond.instanceMethod yX1_bestTwo) ∈ gB := wt_2 (List.mem_of_getElem? (i := 81) rfl) rfl
theorem q_372 : (Cond.selects RX1 yX1_bestTwo yX1_bestTwo) ∈ gB := wt_2 (List.mem_of_getElem? (i := 82) rfl) rfl
theorem q_373 : (Cond.code yX1_bestTwo cX1_bestTwo 9 (some .int)) ∈ gB := wt_2 (List.mem_of_getElem? (i := 83) rfl) rfl
theorem q_374 : (Cond.methodLink RX1 53 Lib.Math.max.name) ∈ gB := wt_2 (List.mem_of_getElem? (i := 91) rfl) rfl
theorem q_375 : (Cond.methodLink RX1 49 yX1_sizeBehind) ∈ gB := wt_2 (List.mem_of_getElem? (i := 84) rfl) rfl
theorem q_376 : (Cond.instanceMethod yX1_sizeBehind) ∈ gB := wt_2 (List.mem_of_getElem? (i := 85) rfl) rfl
theorem q_377 : (Cond.selects RX1 yX1_sizeBehind yX1_sizeBehind) ∈ gB := wt_2 (List.mem_of_getElem? (i := 86) rfl) rfl
theorem q_378 : (Cond.code yX1_sizeBehind cX1_sizeBehind 5 (some .int)) ∈ gB := wt_2 (List.mem_of_getElem? (i := 87) rfl) rfl
theorem q_379 : (Cond.methodLink RX1 58 yX0_addBox) ∈ gB := wt_2 (List.mem_of_getElem? (i := 88) rfl) rfl
theorem q_380 : (Cond.methodLink RX1 61 yX1_sweep) ∈ gB := wt_2 (List.mem_of_getElem? (i := 89) rfl) rfl
theorem q_381 : (Cond.methodLink RX1 65 yX0_dropBox) ∈ gB := wt_2 (List.mem_of_getElem? (i := 90) rfl) rfl
theorem q_382 : (Cond.methodLink RL 56 yX4_two) ∈ gB := wt_3 (List.mem_of_getElem? (i := 147) rfl) rfl
theorem q_383 : (Cond.instanceMethod yX4_two) ∈ gB := wt_3 (List.mem_of_getElem? (i := 148) rfl) rfl
theorem q_384 : (Cond.selects RX4 yX4_two yX4_two) ∈ gB := wt_3 (List.mem_of_getElem? (i := 149) rfl) rfl
theorem q_385 : (Cond.code yX4_two cX4_two 9 (some .int)) ∈ gB := wt_3 (List.mem_of_getElem? (i := 150) rfl) rfl
theorem q_386 : (Cond.methodLink RX4 139 yX4_sizeWith) ∈ gB := wt_3 (List.mem_of_getElem? (i := 151) rfl) rfl
theorem q_387 : (Cond.instanceMethod yX4_sizeWith) ∈ gB := wt_3 (List.mem_of_getElem? (i := 153) rfl) rfl
theorem q_388 : (Cond.selects RX4 yX4_sizeWith yX4_sizeWith) ∈ gB := wt_s (List.mem_of_getElem? (i := 15) rfl) rfl
theorem q_389 : (Cond.code yX4_sizeWith cX4_sizeWith 4 (some .int)) ∈ gB := wt_3 (List.mem_of_getElem? (i := 154) rfl) rfl
theorem q_390 : (Cond.methodLink RX4 136 yX4_pop) ∈ gB := wt_3 (List.mem_of_getElem? (i := 155) rfl) rfl
theorem q_391 : (Cond.instanceMethod yX4_pop) ∈ gB := wt_3 (List.mem_of_getElem? (i := 157) rfl) rfl
theorem q_392 : (Cond.selects RX4 yX4_pop yX4_pop) ∈ gB := wt_s (List.mem_of_getElem? (i := 16) rfl) rfl
theorem q_393 : (Cond.code yX4_pop cX4_pop 2 none) ∈ gB := wt_3 (List.mem_of_getElem? (i := 158) rfl) rfl
theorem q_394 : (Cond.methodLink RL 57 yX3_view) ∈ gB := wt_2 (List.mem_of_getElem? (i := 92) rfl) rfl
theorem q_395 : (Cond.instanceMethod yX3_view) ∈ gB := wt_2 (List.mem_of_getElem? (i := 93) rfl) rfl
theorem q_396 : (Cond.selects RX3 yX3_view yX3_view) ∈ gB := wt_2 (List.mem_of_getElem? (i := 94) rfl) rfl
theorem q_397 : (Cond.code yX3_view cX3_view 3 (some .int)) ∈ gB := wt_2 (List.mem_of_getElem? (i := 95) rfl) rfl
theorem q_398 : (Cond.methodLink RX3 140 yX3_isStep) ∈ gB := wt_2 (List.mem_of_getElem? (i := 96) rfl) rfl
theorem q_399 : (Cond.static yX3_isStep) ∈ gB := wt_2 (List.mem_of_getElem? (i := 97) rfl) rfl
theorem q_400 : (Cond.code yX3_isStep cX3_isStep 1 (some .boolean)) ∈ gB := wt_2 (List.mem_of_getElem? (i := 98) rfl) rfl
theorem q_401 : (Cond.methodLink RX3 143 yX0_leastAcross) ∈ gB := wt_2 (List.mem_of_getElem? (i := 99) rfl) rfl
theorem q_402 : (Cond.instanceMethod yX0_leastAcross) ∈ gB := wt_2 (List.mem_of_getElem? (i := 100) rfl) rfl
theorem q_403 : (Cond.selects RX0 yX0_leastAcross yX0_leastAcross) ∈ gB := wt_2 (List.mem_of_getElem? (i := 101) rfl) rfl
theorem q_404 : (Cond.code yX0_leastAcross cX0_leastAcross 4 (some .int)) ∈ gB := wt_2 (List.mem_of_getElem? (i := 102) rfl) rfl
theorem q_405 : (Cond.static yX3_acrossOf) ∈ gB := wt_2 (List.mem_of_getElem? (i := 104) rfl) rfl
theorem q_406 : (Cond.code yX3_acrossOf cX3_acrossOf 3 (some .int)) ∈ gB := wt_2 (List.mem_of_getElem? (i := 105) rfl) rfl
theorem q_407 : (Cond.fieldLink RX3 201 "HingeCards" "STEP_C" "[I") ∈ gB := wt_2 (List.mem_of_getElem? (i := 106) rfl) rfl
theorem q_408 : (Cond.methodLink RX3 146 yX0_greatestAcross) ∈ gB := wt_2 (List.mem_of_getElem? (i := 108) rfl) rfl
theorem q_409 : (Cond.instanceMethod yX0_greatestAcross) ∈ gB := wt_2 (List.mem_of_getElem? (i := 109) rfl) rfl
theorem q_410 : (Cond.selects RX0 yX0_greatestAcross yX0_greatestAcross) ∈ gB := wt_2 (List.mem_of_getElem? (i := 110) rfl) rfl
theorem q_411 : (Cond.code yX0_greatestAcross cX0_greatestAcross 4 (some .int)) ∈ gB := wt_2 (List.mem_of_getElem? (i := 111) rfl) rfl
theorem q_412 : (Cond.methodLink RX3 149 yX0_greatestUp) ∈ gB := wt_2 (List.mem_of_getElem? (i := 112) rfl) rfl
theorem q_413 : (Cond.instanceMethod yX0_greatestUp) ∈ gB := wt_2 (List.mem_of_getElem? (i := 113) rfl) rfl
theorem q_414 : (Cond.selects RX0 yX0_greatestUp yX0_greatestUp) ∈ gB := wt_2 (List.mem_of_getElem? (i := 114) rfl) rfl
theorem q_415 : (Cond.code yX0_greatestUp cX0_greatestUp 4 (some .int)) ∈ gB := wt_2 (List.mem_of_getElem? (i := 115) rfl) rfl
theorem q_416 : (Cond.static yX3_upOf) ∈ gB := wt_2 (List.mem_of_getElem? (i := 117) rfl) rfl
theorem q_417 : (Cond.code yX3_upOf cX3_upOf 2 (some .int)) ∈ gB := wt_2 (List.mem_of_getElem? (i := 118) rfl) rfl
theorem q_418 : (Cond.fieldLink RX3 204 "HingeCards" "STEP_S" "[I") ∈ gB := wt_2 (List.mem_of_getElem? (i := 119) rfl) rfl
theorem q_419 : (Cond.methodLink RX3 152 yX0_leastUp) ∈ gB := wt_2 (List.mem_of_getElem? (i := 121) rfl) rfl
theorem q_420 : (Cond.instanceMethod yX0_leastUp) ∈ gB := wt_2 (List.mem_of_getElem? (i := 122) rfl) rfl
theorem q_421 : (Cond.selects RX0 yX0_leastUp yX0_leastUp) ∈ gB := wt_2 (List.mem_of_getElem? (i := 123) rfl) rfl
theorem q_422 : (Cond.code yX0_leastUp cX0_leastUp 4 (some .int)) ∈ gB := wt_2 (List.mem_of_getElem? (i := 124) rfl) rfl
theorem q_423 : (Cond.methodLink RL 60 yX4_view) ∈ gB := wt_3 (List.mem_of_getElem? (i := 159) rfl) rfl
theorem q_424 : (Cond.instanceMethod yX4_view) ∈ gB := wt_3 (List.mem_of_getElem? (i := 160) rfl) rfl
theorem q_425 : (Cond.selects RX4 yX4_view yX4_view) ∈ gB := wt_3 (List.mem_of_getElem? (i := 161) rfl) rfl
theorem q_426 : (Cond.code yX4_view cX4_view 9 (some .int)) ∈ gB := wt_3 (List.mem_of_getElem? (i := 162) rfl) rfl
theorem q_427 : (Cond.methodLink RX4 152 yX4_endQ) ∈ gB := wt_3 (List.mem_of_getElem? (i := 163) rfl) rfl
theorem q_428 : (Cond.instanceMethod yX4_endQ) ∈ gB := wt_3 (List.mem_of_getElem? (i := 165) rfl) rfl
theorem q_429 : (Cond.selects RX4 yX4_endQ yX4_endQ) ∈ gB := wt_s (List.mem_of_getElem? (i := 17) rfl) rfl
theorem q_430 : (Cond.code yX4_endQ cX4_endQ 2 (some .int)) ∈ gB := wt_3 (List.mem_of_getElem? (i := 166) rfl) rfl
theorem q_431 : (Cond.methodLink RX4 155 yX4_endP) ∈ gB := wt_3 (List.mem_of_getElem? (i := 167) rfl) rfl
theorem q_432 : (Cond.instanceMethod yX4_endP) ∈ gB := wt_3 (List.mem_of_getElem? (i := 169) rfl) rfl
theorem q_433 : (Cond.selects RX4 yX4_endP yX4_endP) ∈ gB := wt_s (List.mem_of_getElem? (i := 18) rfl) rfl
theorem q_434 : (Cond.code yX4_endP cX4_endP 2 (some .int)) ∈ gB := wt_3 (List.mem_of_getElem? (i := 170) rfl) rfl
theorem q_435 : (Cond.methodLink RX4 158 yX4_across) ∈ gB := wt_3 (List.mem_of_getElem? (i := 171) rfl) rfl
theorem q_436 : (Cond.static yX4_across) ∈ gB := wt_3 (List.mem_of_getElem? (i := 172) rfl) rfl
theorem q_437 : (Cond.code yX4_across cX4_across 3 (some .int)) ∈ gB := wt_3 (List.mem_of_getElem? (i := 173) rfl) rfl
theorem q_438 : (Cond.methodLink RX4 146 yX4_cOf) ∈ gB := wt_3 (List.mem_of_getElem? (i := 174) rfl) rfl
theorem q_439 : (Cond.static yX4_cOf) ∈ gB := wt_3 (List.mem_of_getElem? (i := 175) rfl) rfl
theorem q_440 : (Cond.code yX4_cOf cX4_cOf 1 (some .int)) ∈ gB := wt_3 (List.mem_of_getElem? (i := 176) rfl) rfl
theorem q_441 : (Cond.methodLink RX4 142 yX4_cOfShut) ∈ gB := wt_3 (List.mem_of_getElem? (i := 177) rfl) rfl
theorem q_442 : (Cond.static yX4_cOfShut) ∈ gB := wt_3 (List.mem_of_getElem? (i := 178) rfl) rfl
theorem q_443 : (Cond.code yX4_cOfShut cX4_cOfShut 1 (some .int)) ∈ gB := wt_3 (List.mem_of_getElem? (i := 179) rfl) rfl
theorem q_444 : (Cond.methodLink RX4 161 yX4_upOf) ∈ gB := wt_3 (List.mem_of_getElem? (i := 180) rfl) rfl
theorem q_445 : (Cond.static yX4_upOf) ∈ gB := wt_3 (List.mem_of_getElem? (i := 181) rfl) rfl
theorem q_446 : (Cond.code yX4_upOf cX4_upOf 2 (some .int)) ∈ gB := wt_3 (List.mem_of_getElem? (i := 182) rfl) rfl
theorem q_447 : (Cond.methodLink RX4 149 yX4_sOf) ∈ gB := wt_3 (List.mem_of_getElem? (i := 183) rfl) rfl
theorem q_448 : (Cond.static yX4_sOf) ∈ gB := wt_3 (List.mem_of_getElem? (i := 184) rfl) rfl
theorem q_449 : (Cond.code yX4_sOf cX4_sOf 1 (some .int)) ∈ gB := wt_3 (List.mem_of_getElem? (i := 185) rfl) rfl
theorem q_450 : (Cond.methodLink RL 61 yX3_above) ∈ gB := wt_2 (List.mem_of_getElem? (i := 125) rfl) rfl
theorem q_451 : (Cond.instanceMethod yX3_above) ∈ gB := wt_2 (List.mem_of_getElem? (i := 126) rfl) rfl
theorem q_452 : (Cond.selects RX3 yX3_above yX3_above) ∈ gB := wt_2 (List.mem_of_getElem? (i := 127) rfl) rfl
theorem q_453 : (Cond.code yX3_above cX3_above 4 (some .int)) ∈ gB := wt_2 (List.mem_of_getElem? (i := 128) rfl) rfl
theorem q_454 : (Cond.fieldLink RX3 159 "HingeCards$Sight" "isAny" "Z") ∈ gB := wt_1 (List.mem_of_getElem? (i := 146) rfl) rfl
theorem q_455 : (Cond.fieldLink RX3 163 "HingeCards$Sight" "highestFace" "I") ∈ gB := wt_1 (List.mem_of_getElem? (i := 148) rfl) rfl
theorem q_456 : (Cond.fieldLink RX3 166 "HingeCards$Sight" "upper" "I") ∈ gB := wt_1 (List.mem_of_getElem? (i := 150) rfl) rfl
theorem q_457 : (Cond.constant RX3 169 (100000)) ∈ gB := wt_2 (List.mem_of_getElem? (i := 162) rfl) rfl
theorem q_458 : (Cond.fieldLink RX3 170 "HingeCards$Sight" "lower" "I") ∈ gB := wt_1 (List.mem_of_getElem? (i := 152) rfl) rfl
theorem q_459 : (Cond.methodLink RX3 155 yX2_look) ∈ gB := wt_2 (List.mem_of_getElem? (i := 129) rfl) rfl
theorem q_460 : (Cond.instanceMethod yX2_look) ∈ gB := wt_2 (List.mem_of_getElem? (i := 130) rfl) rfl
theorem q_461 : (Cond.selects RX2 yX2_look yX2_look) ∈ gB := wt_2 (List.mem_of_getElem? (i := 131) rfl) rfl
theorem q_462 : (Cond.code yX2_look cX2_look 5 none) ∈ gB := wt_2 (List.mem_of_getElem? (i := 132) rfl) rfl
theorem q_463 : (Cond.fieldLink RX2 9 "HingeCards$Sight" "isAny" "Z") ∈ gB := wt_1 (List.mem_of_getElem? (i := 145) rfl) rfl
theorem q_464 : (Cond.fieldLink RX2 15 "HingeCards$Sight" "highestFace" "I") ∈ gB := wt_1 (List.mem_of_getElem? (i := 147) rfl) rfl
theorem q_465 : (Cond.fieldLink RX2 19 "HingeCards$Sight" "upper" "I") ∈ gB := wt_1 (List.mem_of_getElem? (i := 149) rfl) rfl
theorem q_466 : (Cond.fieldLink RX2 22 "HingeCards$Sight" "lower" "I") ∈ gB := wt_1 (List.mem_of_getElem? (i := 151) rfl) rfl
theorem q_467 : (Cond.fieldLink RX2 38 "HingeCards$Card" "faceAlong" "[I") ∈ gB := wt_1 (List.mem_of_getElem? (i := 64) rfl) rfl
theorem q_468 : (Cond.methodLink RX2 29 yX0_faces) ∈ gB := wt_2 (List.mem_of_getElem? (i := 134) rfl) rfl
theorem q_469 : (Cond.methodLink RX2 35 yX0_hasFace) ∈ gB := wt_2 (List.mem_of_getElem? (i := 135) rfl) rfl
theorem q_470 : (Cond.methodLink RX2 42 yX2_meetLevel) ∈ gB := wt_2 (List.mem_of_getElem? (i := 136) rfl) rfl
theorem q_471 : (Cond.instanceMethod yX2_meetLevel) ∈ gB := wt_2 (List.mem_of_getElem? (i := 137) rfl) rfl
theorem q_472 : (Cond.selects RX2 yX2_meetLevel yX2_meetLevel) ∈ gB := wt_2 (List.mem_of_getElem? (i := 138) rfl) rfl
theorem q_473 : (Cond.code yX2_meetLevel cX2_meetLevel 7 none) ∈ gB := wt_2 (List.mem_of_getElem? (i := 139) rfl) rfl
theorem q_474 : (Cond.methodLink RX2 52 yX0_firstP) ∈ gB := wt_2 (List.mem_of_getElem? (i := 140) rfl) rfl
theorem q_475 : (Cond.methodLink RX2 56 yX0_firstQ) ∈ gB := wt_2 (List.mem_of_getElem? (i := 141) rfl) rfl
theorem q_476 : (Cond.methodLink RX2 63 yX0_lastP) ∈ gB := wt_2 (List.mem_of_getElem? (i := 143) rfl) rfl
theorem q_477 : (Cond.methodLink RX2 66 yX0_lastQ) ∈ gB := wt_2 (List.mem_of_getElem? (i := 144) rfl) rfl
theorem q_478 : (Cond.methodLink RX2 77 yX2_meet) ∈ gB := wt_2 (List.mem_of_getElem? (i := 147) rfl) rfl
theorem q_479 : (Cond.instanceMethod yX2_meet) ∈ gB := wt_2 (List.mem_of_getElem? (i := 148) rfl) rfl
theorem q_480 : (Cond.selects RX2 yX2_meet yX2_meet) ∈ gB := wt_2 (List.mem_of_getElem? (i := 149) rfl) rfl
theorem q_481 : (Cond.code yX2_meet cX2_meet 4 none) ∈ gB := wt_2 (List.mem_of_getElem? (i := 150) rfl) rfl
theorem q_482 : (Cond.methodLink RX2 46 yX2_meetSlope) ∈ gB := wt_2 (List.mem_of_getElem? (i := 151) rfl) rfl
theorem q_483 : (Cond.instanceMethod yX2_meetSlope) ∈ gB := wt_2 (List.mem_of_getElem? (i := 152) rfl) rfl
theorem q_484 : (Cond.selects RX2 yX2_meetSlope yX2_meetSlope) ∈ gB := wt_2 (List.mem_of_getElem? (i := 153) rfl) rfl
theorem q_485 : (Cond.code yX2_meetSlope cX2_meetSlope 9 none) ∈ gB := wt_2 (List.mem_of_getElem? (i := 154) rfl) rfl
theorem q_486 : (Cond.methodLink RX2 81 Lib.Math.abs.name) ∈ gB := wt_2 (List.mem_of_getElem? (i := 155) rfl) rfl
theorem q_487 : (Cond.static Lib.Math.abs.name) ∈ gB := wt_2 (List.mem_of_getElem? (i := 156) rfl) rfl
theorem q_488 : (Cond.code Lib.Math.abs.name Lib.Math.abs.code 1 (some .int)) ∈ gB := wt_2 (List.mem_of_getElem? (i := 157) rfl) rfl
theorem q_489 : (Cond.methodLink RX2 49 yX2_reduce) ∈ gB := wt_2 (List.mem_of_getElem? (i := 158) rfl) rfl
theorem q_490 : (Cond.instanceMethod yX2_reduce) ∈ gB := wt_2 (List.mem_of_getElem? (i := 159) rfl) rfl
theorem q_491 : (Cond.selects RX2 yX2_reduce yX2_reduce) ∈ gB := wt_2 (List.mem_of_getElem? (i := 160) rfl) rfl
theorem q_492 : (Cond.code yX2_reduce cX2_reduce 2 none) ∈ gB := wt_2 (List.mem_of_getElem? (i := 161) rfl) rfl
theorem q_493 : (Cond.methodLink RL 64 yX4_above) ∈ gB := wt_3 (List.mem_of_getElem? (i := 186) rfl) rfl
theorem q_494 : (Cond.instanceMethod yX4_above) ∈ gB := wt_3 (List.mem_of_getElem? (i := 187) rfl) rfl
theorem q_495 : (Cond.selects RX4 yX4_above yX4_above) ∈ gB := wt_3 (List.mem_of_getElem? (i := 188) rfl) rfl
theorem q_496 : (Cond.code yX4_above cX4_above 8 (some .int)) ∈ gB := wt_3 (List.mem_of_getElem? (i := 189) rfl) rfl
theorem q_497 : (Cond.fieldLink RX4 164 "HingeCardsModel" "high" "I") ∈ gB := wt_2 (List.mem_of_getElem? (i := 236) rfl) rfl
theorem q_498 : (Cond.fieldLink RX4 167 "HingeCardsModel" "by" "I") ∈ gB := wt_2 (List.mem_of_getElem? (i := 237) rfl) rfl
theorem q_499 : (Cond.constant RX4 176 (100000)) ∈ gB := wt_3 (List.mem_of_getElem? (i := 197) rfl) rfl
theorem q_500 : (Cond.methodLink RX4 170 yX4_isOver) ∈ gB := wt_3 (List.mem_of_getElem? (i := 190) rfl) rfl
theorem q_501 : (Cond.instanceMethod yX4_isOver) ∈ gB := wt_3 (List.mem_of_getElem? (i := 192) rfl) rfl
theorem q_502 : (Cond.selects RX4 yX4_isOver yX4_isOver) ∈ gB := wt_s (List.mem_of_getElem? (i := 19) rfl) rfl
theorem q_503 : (Cond.code yX4_isOver cX4_isOver 8 (some .boolean)) ∈ gB := wt_3 (List.mem_of_getElem? (i := 193) rfl) rfl
theorem q_504 : (Cond.methodLink RX4 173 yX4_common) ∈ gB := wt_3 (List.mem_of_getElem? (i := 194) rfl) rfl
theorem q_505 : (Cond.static yX4_common) ∈ gB := wt_3 (List.mem_of_getElem? (i := 195) rfl) rfl
theorem q_506 : (Cond.code yX4_common cX4_common 5 (some .int)) ∈ gB := wt_3 (List.mem_of_getElem? (i := 196) rfl) rfl
theorem q_507 : (Cond.methodLink RL 65 yX3_apart) ∈ gB := wt_2 (List.mem_of_getElem? (i := 163) rfl) rfl
theorem q_508 : (Cond.instanceMethod yX3_apart) ∈ gB := wt_2 (List.mem_of_getElem? (i := 164) rfl) rfl
theorem q_509 : (Cond.selects RX3 yX3_apart yX3_apart) ∈ gB := wt_2 (List.mem_of_getElem? (i := 165) rfl) rfl
theorem q_510 : (Cond.code yX3_apart cX3_apart 6 (some .int)) ∈ gB := wt_2 (List.mem_of_getElem? (i := 166) rfl) rfl
theorem q_511 : (Cond.methodLink RX3 173 yX3_acrossOf) ∈ gB := wt_2 (List.mem_of_getElem? (i := 167) rfl) rfl
theorem q_512 : (Cond.methodLink RX3 176 yX3_upOf) ∈ gB := wt_2 (List.mem_of_getElem? (i := 168) rfl) rfl
theorem q_513 : (Cond.methodLink RL 68 yX4_apart) ∈ gB := wt_3 (List.mem_of_getElem? (i := 198) rfl) rfl
theorem q_514 : (Cond.instanceMethod yX4_apart) ∈ gB := wt_3 (List.mem_of_getElem? (i := 199) rfl) rfl
theorem q_515 : (Cond.selects RX4 yX4_apart yX4_apart) ∈ gB := wt_3 (List.mem_of_getElem? (i := 200) rfl) rfl
theorem q_516 : (Cond.code yX4_apart cX4_apart 6 (some .int)) ∈ gB := wt_3 (List.mem_of_getElem? (i := 201) rfl) rfl
theorem q_517 : (Cond.methodLink RL 69 yX3_image) ∈ gB := wt_2 (List.mem_of_getElem? (i := 169) rfl) rfl
theorem q_518 : (Cond.instanceMethod yX3_image) ∈ gB := wt_2 (List.mem_of_getElem? (i := 170) rfl) rfl
theorem q_519 : (Cond.selects RX3 yX3_image yX3_image) ∈ gB := wt_2 (List.mem_of_getElem? (i := 171) rfl) rfl
theorem q_520 : (Cond.code yX3_image cX3_image 2 (some .int)) ∈ gB := wt_2 (List.mem_of_getElem? (i := 172) rfl) rfl
theorem q_521 : (Cond.methodLink RX3 179 yX3_isImage) ∈ gB := wt_2 (List.mem_of_getElem? (i := 173) rfl) rfl
theorem q_522 : (Cond.static yX3_isImage) ∈ gB := wt_2 (List.mem_of_getElem? (i := 174) rfl) rfl
theorem q_523 : (Cond.code yX3_isImage cX3_isImage 1 (some .boolean)) ∈ gB := wt_2 (List.mem_of_getElem? (i := 175) rfl) rfl
theorem q_524 : (Cond.methodLink RX3 182 yX3_imageAt) ∈ gB := wt_2 (List.mem_of_getElem? (i := 176) rfl) rfl
theorem q_525 : (Cond.instanceMethod yX3_imageAt) ∈ gB := wt_2 (List.mem_of_getElem? (i := 178) rfl) rfl
theorem q_526 : (Cond.selects RX3 yX3_imageAt yX3_imageAt) ∈ gB := wt_s (List.mem_of_getElem? (i := 0) rfl) rfl
theorem q_527 : (Cond.code yX3_imageAt cX3_imageAt 2 (some (.object "HingeCards$Card"))) ∈ gB := wt_2 (List.mem_of_getElem? (i := 179) rfl) rfl
theorem q_528 : (Cond.methodLink RX3 186 yX0_copyFrom) ∈ gB := wt_2 (List.mem_of_getElem? (i := 180) rfl) rfl
theorem q_529 : (Cond.instanceMethod yX0_copyFrom) ∈ gB := wt_2 (List.mem_of_getElem? (i := 181) rfl) rfl
theorem q_530 : (Cond.selects RX0 yX0_copyFrom yX0_copyFrom) ∈ gB := wt_2 (List.mem_of_getElem? (i := 182) rfl) rfl
theorem q_531 : (Cond.code yX0_copyFrom cX0_copyFrom 3 none) ∈ gB := wt_2 (List.mem_of_getElem? (i := 183) rfl) rfl
theorem q_532 : (Cond.methodLink RX0 72 yX0_addBox) ∈ gB := wt_2 (List.mem_of_getElem? (i := 184) rfl) rfl
theorem q_533 : (Cond.methodLink RL 72 yX4_image) ∈ gB := wt_3 (List.mem_of_getElem? (i := 202) rfl) rfl
theorem q_534 : (Cond.instanceMethod yX4_image) ∈ gB := wt_3 (List.mem_of_getElem? (i := 203) rfl) rfl
theorem q_535 : (Cond.selects RX4 yX4_image yX4_image) ∈ gB := wt_3 (List.mem_of_getElem? (i := 204) rfl) rfl
theorem q_536 : (Cond.code yX4_image cX4_image 3 (some .int)) ∈ gB := wt_3 (List.mem_of_getElem? (i := 205) rfl) rfl
theorem q_537 : (Cond.methodLink RL 73 yX3_restore) ∈ gB := wt_2 (List.mem_of_getElem? (i := 185) rfl) rfl
theorem q_538 : (Cond.instanceMethod yX3_restore) ∈ gB := wt_2 (List.mem_of_getElem? (i := 186) rfl) rfl
theorem q_539 : (Cond.selects RX3 yX3_restore yX3_restore) ∈ gB := wt_2 (List.mem_of_getElem? (i := 187) rfl) rfl
theorem q_540 : (Cond.code yX3_restore cX3_restore 2 (some .int)) ∈ gB := wt_2 (List.mem_of_getElem? (i := 188) rfl) rfl
theorem q_541 : (Cond.methodLink RX3 189 yX3_isBit) ∈ gB := wt_2 (List.mem_of_getElem? (i := 189) rfl) rfl
theorem q_542 : (Cond.methodLink RL 76 yX4_restore) ∈ gB := wt_3 (List.mem_of_getElem? (i := 206) rfl) rfl
theorem q_543 : (Cond.instanceMethod yX4_restore) ∈ gB := wt_3 (List.mem_of_getElem? (i := 207) rfl) rfl
theorem q_544 : (Cond.selects RX4 yX4_restore yX4_restore) ∈ gB := wt_3 (List.mem_of_getElem? (i := 208) rfl) rfl
theorem q_545 : (Cond.code yX4_restore cX4_restore 3 (some .int)) ∈ gB := wt_3 (List.mem_of_getElem? (i := 209) rfl) rfl
theorem q_546 : (Cond.methodLink RL 77 yX3_count) ∈ gB := wt_2 (List.mem_of_getElem? (i := 190) rfl) rfl
theorem q_547 : (Cond.instanceMethod yX3_count) ∈ gB := wt_2 (List.mem_of_getElem? (i := 191) rfl) rfl
theorem q_548 : (Cond.selects RX3 yX3_count yX3_count) ∈ gB := wt_2 (List.mem_of_getElem? (i := 192) rfl) rfl
theorem q_549 : (Cond.code yX3_count cX3_count 2 (some .int)) ∈ gB := wt_2 (List.mem_of_getElem? (i := 193) rfl) rfl
theorem q_550 : (Cond.methodLink RX3 192 yX0_corners) ∈ gB := wt_2 (List.mem_of_getElem? (i := 194) rfl) rfl
theorem q_551 : (Cond.methodLink RX3 195 yX0_sumOfSizes) ∈ gB := wt_2 (List.mem_of_getElem? (i := 195) rfl) rfl
theorem q_552 : (Cond.instanceMethod yX0_sumOfSizes) ∈ gB := wt_2 (List.mem_of_getElem? (i := 196) rfl) rfl
theorem q_553 : (Cond.selects RX0 yX0_sumOfSizes yX0_sumOfSizes) ∈ gB := wt_2 (List.mem_of_getElem? (i := 197) rfl) rfl
theorem q_554 : (Cond.code yX0_sumOfSizes cX0_sumOfSizes 3 (some .int)) ∈ gB := wt_2 (List.mem_of_getElem? (i := 198) rfl) rfl
theorem q_555 : (Cond.methodLink RX3 198 yX0_placesOnFaces) ∈ gB := wt_2 (List.mem_of_getElem? (i := 199) rfl) rfl
theorem q_556 : (Cond.instanceMethod yX0_placesOnFaces) ∈ gB := wt_2 (List.mem_of_getElem? (i := 200) rfl) rfl
theorem q_557 : (Cond.selects RX0 yX0_placesOnFaces yX0_placesOnFaces) ∈ gB := wt_2 (List.mem_of_getElem? (i := 201) rfl) rfl
theorem q_558 : (Cond.code yX0_placesOnFaces cX0_placesOnFaces 3 (some .int)) ∈ gB := wt_2 (List.mem_of_getElem? (i := 202) rfl) rfl
theorem q_559 : (Cond.methodLink RX0 155 yJ6_bitCount_0f7a4) ∈ gB := wt_2 (List.mem_of_getElem? (i := 203) rfl) rfl
theorem q_560 : (Cond.static yJ6_bitCount_0f7a4) ∈ gB := wt_2 (List.mem_of_getElem? (i := 204) rfl) rfl
theorem q_561 : (Cond.initialized RJ6) ∈ gB := wt_1 (List.mem_of_getElem? (i := 8) rfl) rfl
theorem q_562 : (Cond.code yJ6_bitCount_0f7a4 cJ6_bitCount_0f7a4 1 (some .int)) ∈ gB := wt_2 (List.mem_of_getElem? (i := 205) rfl) rfl
theorem q_563 : (Cond.constant RJ6 265 (1431655765)) ∈ gB := wt_2 (List.mem_of_getElem? (i := 206) rfl) rfl
theorem q_564 : (Cond.constant RJ6 266 (858993459)) ∈ gB := wt_2 (List.mem_of_getElem? (i := 207) rfl) rfl
theorem q_565 : (Cond.constant RJ6 267 (252645135)) ∈ gB := wt_2 (List.mem_of_getElem? (i := 208) rfl) rfl
theorem q_566 : (Cond.methodLink RL 80 yX4_count) ∈ gB := wt_3 (List.mem_of_getElem? (i := 210) rfl) rfl
theorem q_567 : (Cond.instanceMethod yX4_count) ∈ gB := wt_3 (List.mem_of_getElem? (i := 211) rfl) rfl
theorem q_568 : (Cond.selects RX4 yX4_count yX4_count) ∈ gB := wt_3 (List.mem_of_getElem? (i := 212) rfl) rfl
theorem q_569 : (Cond.code yX4_count cX4_count 2 (some .int)) ∈ gB := wt_3 (List.mem_of_getElem? (i := 213) rfl) rfl
theorem q_570 : (Cond.methodLink RX4 177 yX4_sizes) ∈ gB := wt_3 (List.mem_of_getElem? (i := 214) rfl) rfl
theorem q_571 : (Cond.instanceMethod yX4_sizes) ∈ gB := wt_3 (List.mem_of_getElem? (i := 216) rfl) rfl
theorem q_572 : (Cond.selects RX4 yX4_sizes yX4_sizes) ∈ gB := wt_s (List.mem_of_getElem? (i := 20) rfl) rfl
theorem q_573 : (Cond.code yX4_sizes cX4_sizes 3 (some .int)) ∈ gB := wt_3 (List.mem_of_getElem? (i := 217) rfl) rfl
theorem q_574 : (Cond.methodLink RX4 181 yX4_places) ∈ gB := wt_3 (List.mem_of_getElem? (i := 218) rfl) rfl
theorem q_575 : (Cond.instanceMethod yX4_places) ∈ gB := wt_3 (List.mem_of_getElem? (i := 220) rfl) rfl
theorem q_576 : (Cond.selects RX4 yX4_places yX4_places) ∈ gB := wt_s (List.mem_of_getElem? (i := 21) rfl) rfl
theorem q_577 : (Cond.code yX4_places cX4_places 3 (some .int)) ∈ gB := wt_3 (List.mem_of_getElem? (i := 221) rfl) rfl
theorem q_578 : (Cond.lays RX0 "HingeCards$Card" "pageLength" "I") ∈ gB := wt_1 (List.mem_of_getElem? (i := 80) rfl) rfl
theorem q_579 : (Cond.lays RX0 "HingeCards$Card" "boxes" "I") ∈ gB := wt_1 (List.mem_of_getElem? (i := 82) rfl) rfl
theorem q_580 : (Cond.laysFinal RX0 "HingeCards$Card" "boxCorner" "[I") ∈ gB := wt_1 (List.mem_of_getElem? (i := 84) rfl) rfl
theorem q_581 : (Cond.laysFinal RX0 "HingeCards$Card" "boxA" "[I") ∈ gB := wt_1 (List.mem_of_getElem? (i := 86) rfl) rfl
theorem q_582 : (Cond.laysFinal RX0 "HingeCards$Card" "boxB" "[I") ∈ gB := wt_1 (List.mem_of_getElem? (i := 88) rfl) rfl
theorem q_583 : (Cond.laysFinal RX0 "HingeCards$Card" "faceAlong" "[I") ∈ gB := wt_1 (List.mem_of_getElem? (i := 90) rfl) rfl
theorem q_584 : (Cond.laysFinal RX0 "HingeCards$Card" "faceLine" "[I") ∈ gB := wt_1 (List.mem_of_getElem? (i := 92) rfl) rfl
theorem q_585 : (Cond.laysFinal RX0 "HingeCards$Card" "faceStart" "[I") ∈ gB := wt_1 (List.mem_of_getElem? (i := 94) rfl) rfl
theorem q_586 : (Cond.laysFinal RX0 "HingeCards$Card" "faceLength" "[I") ∈ gB := wt_1 (List.mem_of_getElem? (i := 96) rfl) rfl
theorem q_587 : (Cond.laysFinal RX0 "HingeCards$Card" "cornerP" "[I") ∈ gB := wt_1 (List.mem_of_getElem? (i := 98) rfl) rfl
theorem q_588 : (Cond.laysFinal RX0 "HingeCards$Card" "cornerQ" "[I") ∈ gB := wt_1 (List.mem_of_getElem? (i := 100) rfl) rfl
theorem q_589 : (Cond.laysFinal RX0 "HingeCards$Card" "cornerU" "[I") ∈ gB := wt_1 (List.mem_of_getElem? (i := 102) rfl) rfl
theorem q_590 : (Cond.laysFinal RX0 "HingeCards$Card" "cornerV" "[I") ∈ gB := wt_1 (List.mem_of_getElem? (i := 104) rfl) rfl
theorem q_591 : (Cond.laysFinal RX0 "HingeCards$Card" "stretches" "[I") ∈ gB := wt_1 (List.mem_of_getElem? (i := 106) rfl) rfl
theorem q_592 : (Cond.laysFinal RX0 "HingeCards$Card" "places" "[I") ∈ gB := wt_1 (List.mem_of_getElem? (i := 108) rfl) rfl
theorem inX0 : ∀ w ∈ wsX00, w ∈ gB := by
  intro w h
  obtain ⟨k, hk, rfl⟩ := List.mem_map.mp h
  have hk := List.mem_range.mp hk
  exact (match k, hk with
    | 0, _ => q_578
    | 1, _ => q_579
    | 2, _ => q_580
    | 3, _ => q_581
    | 4, _ => q_582
    | 5, _ => q_583
    | 6, _ => q_584
    | 7, _ => q_585
    | 8, _ => q_586
    | 9, _ => q_587
    | 10, _ => q_588
    | 11, _ => q_589
    | 12, _ => q_590
    | 13, _ => q_591
    | 14, _ => q_592
    | n + 15, h => absurd h (by omega))
theorem q_593 : (Cond.lays RX1 "HingeCards$Search" "ways" "I") ∈ gB := wt_1 (List.mem_of_getElem? (i := 128) rfl) rfl
theorem q_594 : (Cond.lays RX1 "HingeCards$Search" "bestSize" "I") ∈ gB := wt_1 (List.mem_of_getElem? (i := 130) rfl) rfl
theorem q_595 : (Cond.lays RX1 "HingeCards$Search" "bestCorner" "I") ∈ gB := wt_1 (List.mem_of_getElem? (i := 132) rfl) rfl
theorem q_596 : (Cond.lays RX1 "HingeCards$Search" "bestA" "I") ∈ gB := wt_1 (List.mem_of_getElem? (i := 134) rfl) rfl
theorem q_597 : (Cond.lays RX1 "HingeCards$Search" "bestB" "I") ∈ gB := wt_1 (List.mem_of_getElem? (i := 136) rfl) rfl
theorem inX1 : ∀ w ∈ wsX10, w ∈ gB := by
  intro w h
  obtain ⟨k, hk, rfl⟩ := List.mem_map.mp h
  have hk := List.mem_range.mp hk
  exact (match k, hk with
    | 0, _ => q_593
    | 1, _ => q_594
    | 2, _ => q_595
    | 3, _ => q_596
    | 4, _ => q_597
    | n + 5, h => absurd h (by omega))
theorem q_598 : (Cond.lays RX2 "HingeCards$Sight" "isAny" "Z") ∈ gB := wt_1 (List.mem_of_getElem? (i := 153) rfl) rfl
theorem q_599 : (Cond.lays RX2 "HingeCards$Sight" "highestFace" "I") ∈ gB := wt_1 (List.mem_of_getElem? (i := 155) rfl) rfl
theorem q_600 : (Cond.lays RX2 "HingeCards$Sight" "upper" "I") ∈ gB := wt_1 (List.mem_of_getElem? (i := 157) rfl) rfl
theorem q_601 : (Cond.lays RX2 "HingeCards$Sight" "lower" "I") ∈ gB := wt_1 (List.mem_of_getElem? (i := 159) rfl) rfl
theorem inX2 : ∀ w ∈ wsX20, w ∈ gB := by
  intro w h
  obtain ⟨k, hk, rfl⟩ := List.mem_map.mp h
  have hk := List.mem_range.mp hk
  exact (match k, hk with
    | 0, _ => q_598
    | 1, _ => q_599
    | 2, _ => q_600
    | 3, _ => q_601
    | n + 4, h => absurd h (by omega))
theorem q_602 : (Cond.laysFinal RX3 "HingeCards" "card" "LHingeCards$Card;") ∈ gB := wt_1 (List.mem_of_getElem? (i := 168) rfl) rfl
theorem q_603 : (Cond.laysFinal RX3 "HingeCards" "image0" "LHingeCards$Card;") ∈ gB := wt_1 (List.mem_of_getElem? (i := 170) rfl) rfl
theorem q_604 : (Cond.laysFinal RX3 "HingeCards" "image1" "LHingeCards$Card;") ∈ gB := wt_1 (List.mem_of_getElem? (i := 172) rfl) rfl
theorem q_605 : (Cond.lays RX3 "HingeCards" "keptImages" "I") ∈ gB := wt_1 (List.mem_of_getElem? (i := 174) rfl) rfl
theorem q_606 : (Cond.laysFinal RX3 "HingeCards" "search" "LHingeCards$Search;") ∈ gB := wt_1 (List.mem_of_getElem? (i := 176) rfl) rfl
theorem q_607 : (Cond.laysFinal RX3 "HingeCards" "sight" "LHingeCards$Sight;") ∈ gB := wt_1 (List.mem_of_getElem? (i := 178) rfl) rfl
theorem inX3 : ∀ w ∈ wsX30, w ∈ gB := by
  intro w h
  obtain ⟨k, hk, rfl⟩ := List.mem_map.mp h
  have hk := List.mem_range.mp hk
  exact (match k, hk with
    | 0, _ => q_602
    | 1, _ => q_603
    | 2, _ => q_604
    | 3, _ => q_605
    | 4, _ => q_606
    | 5, _ => q_607
    | n + 6, h => absurd h (by omega))
theorem q_608 : (Cond.laysFinal RX4 "HingeCardsModel" "state" "[I") ∈ gB := wt_2 (List.mem_of_getElem? (i := 238) rfl) rfl
theorem q_609 : (Cond.laysFinal RX4 "HingeCardsModel" "images" "[I") ∈ gB := wt_3 (List.mem_of_getElem? (i := 0) rfl) rfl
theorem q_610 : (Cond.laysFinal RX4 "HingeCardsModel" "isKept" "[Z") ∈ gB := wt_3 (List.mem_of_getElem? (i := 2) rfl) rfl
theorem q_611 : (Cond.laysFinal RX4 "HingeCardsModel" "faceWay" "[I") ∈ gB := wt_3 (List.mem_of_getElem? (i := 4) rfl) rfl
theorem q_612 : (Cond.laysFinal RX4 "HingeCardsModel" "faceP" "[I") ∈ gB := wt_3 (List.mem_of_getElem? (i := 6) rfl) rfl
theorem q_613 : (Cond.laysFinal RX4 "HingeCardsModel" "faceQ" "[I") ∈ gB := wt_3 (List.mem_of_getElem? (i := 8) rfl) rfl
theorem q_614 : (Cond.laysFinal RX4 "HingeCardsModel" "faceLong" "[I") ∈ gB := wt_3 (List.mem_of_getElem? (i := 10) rfl) rfl
theorem q_615 : (Cond.lays RX4 "HingeCardsModel" "faces" "I") ∈ gB := wt_3 (List.mem_of_getElem? (i := 12) rfl) rfl
theorem q_616 : (Cond.laysFinal RX4 "HingeCardsModel" "cornerP" "[I") ∈ gB := wt_3 (List.mem_of_getElem? (i := 14) rfl) rfl
theorem q_617 : (Cond.laysFinal RX4 "HingeCardsModel" "cornerQ" "[I") ∈ gB := wt_3 (List.mem_of_getElem? (i := 16) rfl) rfl
theorem q_618 : (Cond.laysFinal RX4 "HingeCardsModel" "cornerU" "[I") ∈ gB := wt_3 (List.mem_of_getElem? (i := 18) rfl) rfl
theorem q_619 : (Cond.laysFinal RX4 "HingeCardsModel" "cornerV" "[I") ∈ gB := wt_3 (List.mem_of_getElem? (i := 20) rfl) rfl
theorem q_620 : (Cond.lays RX4 "HingeCardsModel" "corners" "I") ∈ gB := wt_3 (List.mem_of_getElem? (i := 22) rfl) rfl
theorem q_621 : (Cond.laysFinal RX4 "HingeCardsModel" "alongP" "[I") ∈ gB := wt_3 (List.mem_of_getElem? (i := 24) rfl) rfl
theorem q_622 : (Cond.laysFinal RX4 "HingeCardsModel" "alongQ" "[I") ∈ gB := wt_3 (List.mem_of_getElem? (i := 26) rfl) rfl
theorem q_623 : (Cond.laysFinal RX4 "HingeCardsModel" "onFaces" "[I") ∈ gB := wt_3 (List.mem_of_getElem? (i := 28) rfl) rfl
theorem q_624 : (Cond.lays RX4 "HingeCardsModel" "ways" "I") ∈ gB := wt_3 (List.mem_of_getElem? (i := 30) rfl) rfl
theorem q_625 : (Cond.lays RX4 "HingeCardsModel" "best" "I") ∈ gB := wt_3 (List.mem_of_getElem? (i := 32) rfl) rfl
theorem q_626 : (Cond.lays RX4 "HingeCardsModel" "bestCorner" "I") ∈ gB := wt_3 (List.mem_of_getElem? (i := 34) rfl) rfl
theorem q_627 : (Cond.lays RX4 "HingeCardsModel" "bestA" "I") ∈ gB := wt_3 (List.mem_of_getElem? (i := 36) rfl) rfl
theorem q_628 : (Cond.lays RX4 "HingeCardsModel" "bestB" "I") ∈ gB := wt_3 (List.mem_of_getElem? (i := 38) rfl) rfl
theorem q_629 : (Cond.lays RX4 "HingeCardsModel" "high" "I") ∈ gB := wt_3 (List.mem_of_getElem? (i := 40) rfl) rfl
theorem q_630 : (Cond.lays RX4 "HingeCardsModel" "by" "I") ∈ gB := wt_3 (List.mem_of_getElem? (i := 42) rfl) rfl
theorem inX4 : ∀ w ∈ wsX40, w ∈ gB := by
  intro w h
  obtain ⟨k, hk, rfl⟩ := List.mem_map.mp h
  have hk := List.mem_range.mp hk
  exact (match k, hk with
    | 0, _ => q_608
    | 1, _ => q_609
    | 2, _ => q_610
    | 3, _ => q_611
    | 4, _ => q_612
    | 5, _ => q_613
    | 6, _ => q_614
    | 7, _ => q_615
    | 8, _ => q_616
    | 9, _ => q_617
    | 10, _ => q_618
    | 11, _ => q_619
    | 12, _ => q_620
    | 13, _ => q_621
    | 14, _ => q_622
    | 15, _ => q_623
    | 16, _ => q_624
    | 17, _ => q_625
    | 18, _ => q_626
    | 19, _ => q_627
    | 20, _ => q_628
    | 21, _ => q_629
    | 22, _ => q_630
    | n + 23, h => absurd h (by omega))
