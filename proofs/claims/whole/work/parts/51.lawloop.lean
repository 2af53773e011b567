theorem wl_0 : Cond.constantLong "WheelsWidthsLaw" 13 (Int64.ofInt (4294967295)) ∈ TBL := tw7 155 (by decide +kernel) (by decide +kernel)
theorem wl_1 : Cond.methodLink "WheelsWidthsLaw" 15 ⟨"WheelsWidths", "feed", "(J)I"⟩ ∈ TBL := tw2 120 (by decide +kernel) (by decide +kernel)
theorem wl_2 : Cond.methodLink "WheelsWidthsLaw" 19 ⟨"WheelsWidthsModel", "feed", "(J)I"⟩ ∈ TBL := tw6 23 (by decide +kernel) (by decide +kernel)
theorem wl_3 : Cond.methodLink "WheelsWidthsLaw" 20 ⟨"WheelsWidths", "end", "(I)I"⟩ ∈ TBL := tw2 128 (by decide +kernel) (by decide +kernel)
theorem wl_4 : Cond.methodLink "WheelsWidthsLaw" 24 ⟨"WheelsWidthsModel", "end", "(I)I"⟩ ∈ TBL := tw6 28 (by decide +kernel) (by decide +kernel)
theorem wl_5 : Cond.methodLink "WheelsWidthsLaw" 25 ⟨"WheelsWidths", "text", "()I"⟩ ∈ TBL := tw2 132 (by decide +kernel) (by decide +kernel)
theorem wl_6 : Cond.methodLink "WheelsWidthsLaw" 29 ⟨"WheelsWidthsModel", "text", "()I"⟩ ∈ TBL := tw6 35 (by decide +kernel) (by decide +kernel)
theorem wl_7 : Cond.methodLink "WheelsWidthsLaw" 30 ⟨"WheelsWidths", "fault", "()I"⟩ ∈ TBL := tw3 133 (by decide +kernel) (by decide +kernel)
theorem wl_8 : Cond.methodLink "WheelsWidthsLaw" 33 ⟨"WheelsWidthsModel", "fault", "()I"⟩ ∈ TBL := tw6 115 (by decide +kernel) (by decide +kernel)
theorem wl_9 : Cond.methodLink "WheelsWidthsLaw" 34 ⟨"WheelsWidths", "yard", "(II)I"⟩ ∈ TBL := tw3 137 (by decide +kernel) (by decide +kernel)
theorem wl_10 : Cond.methodLink "WheelsWidthsLaw" 38 ⟨"WheelsWidthsModel", "yard", "(II)I"⟩ ∈ TBL := tw6 119 (by decide +kernel) (by decide +kernel)
theorem wl_11 : Cond.methodLink "WheelsWidthsLaw" 39 ⟨"WheelsWidths", "cart", "(II)I"⟩ ∈ TBL := tw3 152 (by decide +kernel) (by decide +kernel)
theorem wl_12 : Cond.methodLink "WheelsWidthsLaw" 42 ⟨"WheelsWidthsModel", "cart", "(II)I"⟩ ∈ TBL := tw6 134 (by decide +kernel) (by decide +kernel)
theorem wl_13 : Cond.methodLink "WheelsWidthsLaw" 43 ⟨"WheelsWidths", "frost", "(I)I"⟩ ∈ TBL := tw3 161 (by decide +kernel) (by decide +kernel)
theorem wl_14 : Cond.methodLink "WheelsWidthsLaw" 46 ⟨"WheelsWidthsModel", "frost", "(I)I"⟩ ∈ TBL := tw6 147 (by decide +kernel) (by decide +kernel)
theorem wl_15 : Cond.methodLink "WheelsWidthsLaw" 47 ⟨"WheelsWidths", "dig", "(III)I"⟩ ∈ TBL := tw3 169 (by decide +kernel) (by decide +kernel)
theorem wl_16 : Cond.methodLink "WheelsWidthsLaw" 51 ⟨"WheelsWidthsModel", "dig", "(III)I"⟩ ∈ TBL := tw6 155 (by decide +kernel) (by decide +kernel)
theorem wl_17 : Cond.methodLink "WheelsWidthsLaw" 52 ⟨"WheelsWidths", "fill", "(I)I"⟩ ∈ TBL := tw3 174 (by decide +kernel) (by decide +kernel)
theorem wl_18 : Cond.methodLink "WheelsWidthsLaw" 55 ⟨"WheelsWidthsModel", "fill", "(I)I"⟩ ∈ TBL := tw6 164 (by decide +kernel) (by decide +kernel)
theorem wl_19 : Cond.methodLink "WheelsWidthsLaw" 56 ⟨"WheelsWidths", "shoe", "(II)I"⟩ ∈ TBL := tw3 179 (by decide +kernel) (by decide +kernel)
theorem wl_20 : Cond.methodLink "WheelsWidthsLaw" 59 ⟨"WheelsWidthsModel", "shoe", "(II)I"⟩ ∈ TBL := tw6 172 (by decide +kernel) (by decide +kernel)
theorem wl_21 : Cond.methodLink "WheelsWidthsLaw" 60 ⟨"WheelsWidths", "load", "(II)I"⟩ ∈ TBL := tw3 184 (by decide +kernel) (by decide +kernel)
theorem wl_22 : Cond.methodLink "WheelsWidthsLaw" 63 ⟨"WheelsWidthsModel", "load", "(II)I"⟩ ∈ TBL := tw6 176 (by decide +kernel) (by decide +kernel)
theorem wl_23 : Cond.methodLink "WheelsWidthsLaw" 64 ⟨"WheelsWidths", "freeze", "(IZ)I"⟩ ∈ TBL := tw3 190 (by decide +kernel) (by decide +kernel)
theorem wl_24 : Cond.methodLink "WheelsWidthsLaw" 68 ⟨"WheelsWidthsModel", "freeze", "(IZ)I"⟩ ∈ TBL := tw6 181 (by decide +kernel) (by decide +kernel)
theorem wl_25 : Cond.methodLink "WheelsWidthsLaw" 69 ⟨"WheelsWidths", "where", "(II)I"⟩ ∈ TBL := tw3 195 (by decide +kernel) (by decide +kernel)
theorem wl_26 : Cond.methodLink "WheelsWidthsLaw" 72 ⟨"WheelsWidthsModel", "where", "(II)I"⟩ ∈ TBL := tw6 185 (by decide +kernel) (by decide +kernel)
theorem wl_27 : Cond.methodLink "WheelsWidthsLaw" 73 ⟨"WheelsWidths", "depth", "(III)I"⟩ ∈ TBL := tw4 39 (by decide +kernel) (by decide +kernel)
theorem wl_28 : Cond.methodLink "WheelsWidthsLaw" 76 ⟨"WheelsWidthsModel", "depth", "(III)I"⟩ ∈ TBL := tw6 216 (by decide +kernel) (by decide +kernel)
theorem wl_29 : Cond.methodLink "WheelsWidthsLaw" 77 ⟨"WheelsWidths", "paid", "(II)I"⟩ ∈ TBL := tw4 44 (by decide +kernel) (by decide +kernel)
theorem wl_30 : Cond.methodLink "WheelsWidthsLaw" 80 ⟨"WheelsWidthsModel", "paid", "(II)I"⟩ ∈ TBL := tw6 220 (by decide +kernel) (by decide +kernel)
theorem wl_31 : Cond.methodLink "WheelsWidthsLaw" 81 ⟨"WheelsWidths", "waited", "(II)I"⟩ ∈ TBL := tw4 48 (by decide +kernel) (by decide +kernel)
theorem wl_32 : Cond.methodLink "WheelsWidthsLaw" 84 ⟨"WheelsWidthsModel", "waited", "(II)I"⟩ ∈ TBL := tw6 224 (by decide +kernel) (by decide +kernel)
theorem wl_33 : Cond.methodLink "WheelsWidthsLaw" 85 ⟨"WheelsWidths", "done", "(I)I"⟩ ∈ TBL := tw4 52 (by decide +kernel) (by decide +kernel)
theorem wl_34 : Cond.methodLink "WheelsWidthsLaw" 88 ⟨"WheelsWidthsModel", "done", "(I)I"⟩ ∈ TBL := tw6 228 (by decide +kernel) (by decide +kernel)
theorem wl_35 : Cond.methodLink "WheelsWidthsLaw" 89 ⟨"WheelsWidths", "jam", "(I)I"⟩ ∈ TBL := tw4 57 (by decide +kernel) (by decide +kernel)
theorem wl_36 : Cond.methodLink "WheelsWidthsLaw" 92 ⟨"WheelsWidthsModel", "jam", "(I)I"⟩ ∈ TBL := tw6 232 (by decide +kernel) (by decide +kernel)
theorem wl_37 : Cond.methodLink "WheelsWidthsLaw" 93 ⟨"WheelsWidths", "deepest", "(II)I"⟩ ∈ TBL := tw4 61 (by decide +kernel) (by decide +kernel)
theorem wl_38 : Cond.methodLink "WheelsWidthsLaw" 96 ⟨"WheelsWidthsModel", "deepest", "(II)I"⟩ ∈ TBL := tw6 236 (by decide +kernel) (by decide +kernel)
theorem wl_39 : Cond.methodLink "WheelsWidthsLaw" 97 ⟨"WheelsWidths", "go", "(I)I"⟩ ∈ TBL := tw4 65 (by decide +kernel) (by decide +kernel)
theorem wl_40 : Cond.methodLink "WheelsWidthsLaw" 100 ⟨"WheelsWidthsModel", "go", "(I)I"⟩ ∈ TBL := tw7 0 (by decide +kernel) (by decide +kernel)
theorem wl_41 : Cond.methodLink "WheelsWidthsLaw" 101 ⟨"WheelsWidths", "order", "(I)I"⟩ ∈ TBL := tw4 74 (by decide +kernel) (by decide +kernel)
theorem wl_42 : Cond.methodLink "WheelsWidthsLaw" 104 ⟨"WheelsWidthsModel", "order", "(I)I"⟩ ∈ TBL := tw7 4 (by decide +kernel) (by decide +kernel)
theorem wl_43 : Cond.methodLink "WheelsWidthsLaw" 105 ⟨"WheelsWidths", "mend", "(I)I"⟩ ∈ TBL := tw4 115 (by decide +kernel) (by decide +kernel)
theorem wl_44 : Cond.methodLink "WheelsWidthsLaw" 108 ⟨"WheelsWidthsModel", "mend", "(I)I"⟩ ∈ TBL := tw7 20 (by decide +kernel) (by decide +kernel)
theorem wl_45 : Cond.methodLink "WheelsWidthsLaw" 109 ⟨"WheelsWidths", "way", "(III)I"⟩ ∈ TBL := tw4 133 (by decide +kernel) (by decide +kernel)
theorem wl_46 : Cond.methodLink "WheelsWidthsLaw" 112 ⟨"WheelsWidthsModel", "way", "(III)I"⟩ ∈ TBL := tw7 32 (by decide +kernel) (by decide +kernel)
theorem wl_47 : Cond.methodLink "WheelsWidthsLaw" 113 ⟨"WheelsWidths", "can", "(I)I"⟩ ∈ TBL := tw4 201 (by decide +kernel) (by decide +kernel)
theorem wl_48 : Cond.methodLink "WheelsWidthsLaw" 116 ⟨"WheelsWidthsModel", "can", "(I)I"⟩ ∈ TBL := tw7 58 (by decide +kernel) (by decide +kernel)
theorem wl_49 : Cond.methodLink "WheelsWidthsLaw" 117 ⟨"WheelsWidths", "cost", "(I)I"⟩ ∈ TBL := tw4 213 (by decide +kernel) (by decide +kernel)
theorem wl_50 : Cond.methodLink "WheelsWidthsLaw" 120 ⟨"WheelsWidthsModel", "cost", "(I)I"⟩ ∈ TBL := tw7 62 (by decide +kernel) (by decide +kernel)
theorem wl_51 : Cond.methodLink "WheelsWidthsLaw" 121 ⟨"WheelsWidths", "price", "(II)I"⟩ ∈ TBL := tw4 220 (by decide +kernel) (by decide +kernel)
theorem wl_52 : Cond.methodLink "WheelsWidthsLaw" 124 ⟨"WheelsWidthsModel", "price", "(II)I"⟩ ∈ TBL := tw7 70 (by decide +kernel) (by decide +kernel)
theorem wl_53 : Cond.methodLink "WheelsWidthsLaw" 125 ⟨"WheelsWidths", "firm", "(III)I"⟩ ∈ TBL := tw4 227 (by decide +kernel) (by decide +kernel)
theorem wl_54 : Cond.methodLink "WheelsWidthsLaw" 128 ⟨"WheelsWidthsModel", "firm", "(III)I"⟩ ∈ TBL := tw7 74 (by decide +kernel) (by decide +kernel)
theorem wl_55 : Cond.methodLink "WheelsWidthsLaw" 129 ⟨"WheelsWidths", "shares", "(I)I"⟩ ∈ TBL := tw4 235 (by decide +kernel) (by decide +kernel)
theorem wl_56 : Cond.methodLink "WheelsWidthsLaw" 132 ⟨"WheelsWidthsModel", "shares", "(I)I"⟩ ∈ TBL := tw7 85 (by decide +kernel) (by decide +kernel)
theorem wl_57 : Cond.methodLink "WheelsWidthsLaw" 133 ⟨"WheelsWidths", "track", "(II)I"⟩ ∈ TBL := tw4 239 (by decide +kernel) (by decide +kernel)
theorem wl_58 : Cond.methodLink "WheelsWidthsLaw" 136 ⟨"WheelsWidthsModel", "track", "(II)I"⟩ ∈ TBL := tw7 89 (by decide +kernel) (by decide +kernel)
theorem wl_59 : Cond.methodLink "WheelsWidthsLaw" 137 ⟨"WheelsWidths", "forget", "(I)I"⟩ ∈ TBL := tw5 11 (by decide +kernel) (by decide +kernel)
theorem wl_60 : Cond.methodLink "WheelsWidthsLaw" 140 ⟨"WheelsWidthsModel", "forget", "(I)I"⟩ ∈ TBL := tw7 93 (by decide +kernel) (by decide +kernel)
theorem wl_61 : Cond.methodLink "WheelsWidthsLaw" 141 ⟨"WheelsWidths", "orders", "(I)I"⟩ ∈ TBL := tw5 15 (by decide +kernel) (by decide +kernel)
theorem wl_62 : Cond.methodLink "WheelsWidthsLaw" 144 ⟨"WheelsWidthsModel", "orders", "(I)I"⟩ ∈ TBL := tw7 97 (by decide +kernel) (by decide +kernel)
theorem wl_63 : Cond.methodLink "WheelsWidthsLaw" 145 ⟨"WheelsWidths", "whose", "(I)I"⟩ ∈ TBL := tw5 44 (by decide +kernel) (by decide +kernel)
theorem wl_64 : Cond.methodLink "WheelsWidthsLaw" 148 ⟨"WheelsWidthsModel", "whose", "(I)I"⟩ ∈ TBL := tw7 113 (by decide +kernel) (by decide +kernel)
theorem wl_65 : Cond.methodLink "WheelsWidthsLaw" 149 ⟨"WheelsWidths", "keep", "(I)I"⟩ ∈ TBL := tw5 48 (by decide +kernel) (by decide +kernel)
theorem wl_66 : Cond.methodLink "WheelsWidthsLaw" 152 ⟨"WheelsWidthsModel", "keep", "(I)I"⟩ ∈ TBL := tw7 117 (by decide +kernel) (by decide +kernel)
theorem wl_67 : Cond.methodLink "WheelsWidthsLaw" 153 ⟨"WheelsWidths", "back", "(I)I"⟩ ∈ TBL := tw5 59 (by decide +kernel) (by decide +kernel)
theorem wl_68 : Cond.methodLink "WheelsWidthsLaw" 156 ⟨"WheelsWidthsModel", "back", "(I)I"⟩ ∈ TBL := tw7 125 (by decide +kernel) (by decide +kernel)
theorem wl_69 : Cond.methodLink "WheelsWidthsLaw" 157 ⟨"WheelsWidths", "sheet", "(III)I"⟩ ∈ TBL := tw5 63 (by decide +kernel) (by decide +kernel)
theorem wl_70 : Cond.methodLink "WheelsWidthsLaw" 160 ⟨"WheelsWidthsModel", "sheet", "(III)I"⟩ ∈ TBL := tw7 129 (by decide +kernel) (by decide +kernel)
theorem wl_71 : Cond.methodLink "WheelsWidthsLaw" 161 ⟨"WheelsWidths", "lay", "(III)I"⟩ ∈ TBL := tw5 78 (by decide +kernel) (by decide +kernel)
theorem wl_72 : Cond.methodLink "WheelsWidthsLaw" 164 ⟨"WheelsWidthsModel", "lay", "(III)I"⟩ ∈ TBL := tw7 137 (by decide +kernel) (by decide +kernel)
theorem wl_73 : Cond.methodLink "WheelsWidthsLaw" 165 ⟨"WheelsWidths", "read", "(IIII)I"⟩ ∈ TBL := tw5 95 (by decide +kernel) (by decide +kernel)
theorem wl_74 : Cond.methodLink "WheelsWidthsLaw" 169 ⟨"WheelsWidthsModel", "read", "(IIII)I"⟩ ∈ TBL := tw7 141 (by decide +kernel) (by decide +kernel)
theorem wl_75 : Cond.methodLink "WheelsWidthsLaw" 170 ⟨"WheelsWidths", "torn", "()I"⟩ ∈ TBL := tw5 112 (by decide +kernel) (by decide +kernel)
theorem wl_76 : Cond.methodLink "WheelsWidthsLaw" 173 ⟨"WheelsWidthsModel", "torn", "()I"⟩ ∈ TBL := tw7 147 (by decide +kernel) (by decide +kernel)
theorem wl_77 : Cond.methodLink "WheelsWidthsLaw" 174 ⟨"WheelsWidths", "count", "(I)I"⟩ ∈ TBL := tw5 116 (by decide +kernel) (by decide +kernel)
theorem wl_78 : Cond.methodLink "WheelsWidthsLaw" 177 ⟨"WheelsWidthsModel", "count", "(I)I"⟩ ∈ TBL := tw7 151 (by decide +kernel) (by decide +kernel)
def E_feed (Inv : Mem → Prop) : Prop := ∀ μ, Inv μ → ∀ x1 : Int, C64 x1 → ∃ r μ1 μ2, ww_feed x1 μ = some (r, μ1) ∧ mod_feed x1 μ1 = some (r, μ2) ∧ Inv μ2
def E_end (Inv : Mem → Prop) : Prop := ∀ μ, Inv μ → ∀ x1 : Int, C32 x1 → ∃ r μ1 μ2, ww_end x1 μ = some (r, μ1) ∧ mod_end x1 μ1 = some (r, μ2) ∧ Inv μ2
def E_text (Inv : Mem → Prop) : Prop := ∀ μ, Inv μ → ∃ r μ1 μ2, ww_text  μ = some (r, μ1) ∧ mod_text  μ1 = some (r, μ2) ∧ Inv μ2
def E_fault (Inv : Mem → Prop) : Prop := ∀ μ, Inv μ → ∃ r, ww_fault μ  = some r ∧ mod_fault μ  = some r ∧ Inv μ
def E_yard (Inv : Mem → Prop) : Prop := ∀ μ, Inv μ → ∀ x1 x2 : Int, C32 x1 → C32 x2 → ∃ r, ww_yard μ x1 x2 = some r ∧ mod_yard μ x1 x2 = some r ∧ Inv μ
def E_cart (Inv : Mem → Prop) : Prop := ∀ μ, Inv μ → ∀ x1 x2 : Int, C32 x1 → C32 x2 → ∃ r, ww_cart μ x1 x2 = some r ∧ mod_cart μ x1 x2 = some r ∧ Inv μ
def E_frost (Inv : Mem → Prop) : Prop := ∀ μ, Inv μ → ∀ x1 : Int, C32 x1 → ∃ r, ww_frost μ x1 = some r ∧ mod_frost μ x1 = some r ∧ Inv μ
def E_dig (Inv : Mem → Prop) : Prop := ∀ μ, Inv μ → ∀ x1 x2 x3 : Int, C32 x1 → C32 x2 → C32 x3 → ∃ r μ1 μ2, ww_dig x1 x2 x3 μ = some (r, μ1) ∧ mod_dig x1 x2 x3 μ1 = some (r, μ2) ∧ Inv μ2
def E_fill (Inv : Mem → Prop) : Prop := ∀ μ, Inv μ → ∀ x1 : Int, C32 x1 → ∃ r μ1 μ2, ww_fill x1 μ = some (r, μ1) ∧ mod_fill x1 μ1 = some (r, μ2) ∧ Inv μ2
def E_shoe (Inv : Mem → Prop) : Prop := ∀ μ, Inv μ → ∀ x1 x2 : Int, C32 x1 → C32 x2 → ∃ r μ1 μ2, ww_shoe x1 x2 μ = some (r, μ1) ∧ mod_shoe x1 x2 μ1 = some (r, μ2) ∧ Inv μ2
def E_load (Inv : Mem → Prop) : Prop := ∀ μ, Inv μ → ∀ x1 x2 : Int, C32 x1 → C32 x2 → ∃ r μ1 μ2, ww_load x1 x2 μ = some (r, μ1) ∧ mod_load x1 x2 μ1 = some (r, μ2) ∧ Inv μ2
def E_freeze (Inv : Mem → Prop) : Prop := ∀ μ, Inv μ → ∀ x1 x2 : Int, C32 x1 → (x2 = 0 ∨ x2 = 1) → ∃ r μ1 μ2, ww_freeze x1 x2 μ = some (r, μ1) ∧ mod_freeze x1 x2 μ1 = some (r, μ2) ∧ Inv μ2
def E_where (Inv : Mem → Prop) : Prop := ∀ μ, Inv μ → ∀ x1 x2 : Int, C32 x1 → C32 x2 → ∃ r μ1 μ2, ww_where x1 x2 μ = some (r, μ1) ∧ mod_where x1 x2 μ1 = some (r, μ2) ∧ Inv μ2
def E_depth (Inv : Mem → Prop) : Prop := ∀ μ, Inv μ → ∀ x1 x2 x3 : Int, C32 x1 → C32 x2 → C32 x3 → ∃ r μ1 μ2, ww_depth x1 x2 x3 μ = some (r, μ1) ∧ mod_depth x1 x2 x3 μ1 = some (r, μ2) ∧ Inv μ2
def E_paid (Inv : Mem → Prop) : Prop := ∀ μ, Inv μ → ∀ x1 x2 : Int, C32 x1 → C32 x2 → ∃ r μ1 μ2, ww_paid x1 x2 μ = some (r, μ1) ∧ mod_paid x1 x2 μ1 = some (r, μ2) ∧ Inv μ2
def E_waited (Inv : Mem → Prop) : Prop := ∀ μ, Inv μ → ∀ x1 x2 : Int, C32 x1 → C32 x2 → ∃ r μ1 μ2, ww_waited x1 x2 μ = some (r, μ1) ∧ mod_waited x1 x2 μ1 = some (r, μ2) ∧ Inv μ2
def E_done (Inv : Mem → Prop) : Prop := ∀ μ, Inv μ → ∀ x1 : Int, C32 x1 → ∃ r μ1 μ2, ww_done x1 μ = some (r, μ1) ∧ mod_done x1 μ1 = some (r, μ2) ∧ Inv μ2
def E_jam (Inv : Mem → Prop) : Prop := ∀ μ, Inv μ → ∀ x1 : Int, C32 x1 → ∃ r μ1 μ2, ww_jam x1 μ = some (r, μ1) ∧ mod_jam x1 μ1 = some (r, μ2) ∧ Inv μ2
def E_deepest (Inv : Mem → Prop) : Prop := ∀ μ, Inv μ → ∀ x1 x2 : Int, C32 x1 → C32 x2 → ∃ r μ1 μ2, ww_deepest x1 x2 μ = some (r, μ1) ∧ mod_deepest x1 x2 μ1 = some (r, μ2) ∧ Inv μ2
def E_go (Inv : Mem → Prop) : Prop := ∀ μ, Inv μ → ∀ x1 : Int, C32 x1 → ∃ r μ1 μ2, ww_go x1 μ = some (r, μ1) ∧ mod_go x1 μ1 = some (r, μ2) ∧ Inv μ2
def E_order (Inv : Mem → Prop) : Prop := ∀ μ, Inv μ → ∀ x1 : Int, C32 x1 → ∃ r μ1 μ2, ww_order x1 μ = some (r, μ1) ∧ mod_order x1 μ1 = some (r, μ2) ∧ Inv μ2
def E_mend (Inv : Mem → Prop) : Prop := ∀ μ, Inv μ → ∀ x1 : Int, C32 x1 → ∃ r μ1 μ2, ww_mend x1 μ = some (r, μ1) ∧ mod_mend x1 μ1 = some (r, μ2) ∧ Inv μ2
def E_way (Inv : Mem → Prop) : Prop := ∀ μ, Inv μ → ∀ x1 x2 x3 : Int, C32 x1 → C32 x2 → C32 x3 → ∃ r μ1 μ2, ww_way x1 x2 x3 μ = some (r, μ1) ∧ mod_way x1 x2 x3 μ1 = some (r, μ2) ∧ Inv μ2
def E_can (Inv : Mem → Prop) : Prop := ∀ μ, Inv μ → ∀ x1 : Int, C32 x1 → ∃ r μ1 μ2, ww_can x1 μ = some (r, μ1) ∧ mod_can x1 μ1 = some (r, μ2) ∧ Inv μ2
def E_cost (Inv : Mem → Prop) : Prop := ∀ μ, Inv μ → ∀ x1 : Int, C32 x1 → ∃ r, ww_cost μ x1 = some r ∧ mod_cost μ x1 = some r ∧ Inv μ
def E_price (Inv : Mem → Prop) : Prop := ∀ μ, Inv μ → ∀ x1 x2 : Int, C32 x1 → C32 x2 → ∃ r μ1 μ2, ww_price x1 x2 μ = some (r, μ1) ∧ mod_price x1 x2 μ1 = some (r, μ2) ∧ Inv μ2
def E_firm (Inv : Mem → Prop) : Prop := ∀ μ, Inv μ → ∀ x1 x2 x3 : Int, C32 x1 → C32 x2 → C32 x3 → ∃ r, ww_firm μ x1 x2 x3 = some r ∧ mod_firm μ x1 x2 x3 = some r ∧ Inv μ
def E_shares (Inv : Mem → Prop) : Prop := ∀ μ, Inv μ → ∀ x1 : Int, C32 x1 → ∃ r, ww_shares μ x1 = some r ∧ mod_shares μ x1 = some r ∧ Inv μ
def E_track (Inv : Mem → Prop) : Prop := ∀ μ, Inv μ → ∀ x1 x2 : Int, C32 x1 → C32 x2 → ∃ r μ1 μ2, ww_track x1 x2 μ = some (r, μ1) ∧ mod_track x1 x2 μ1 = some (r, μ2) ∧ Inv μ2
def E_forget (Inv : Mem → Prop) : Prop := ∀ μ, Inv μ → ∀ x1 : Int, C32 x1 → ∃ r μ1 μ2, ww_forget x1 μ = some (r, μ1) ∧ mod_forget x1 μ1 = some (r, μ2) ∧ Inv μ2
def E_orders (Inv : Mem → Prop) : Prop := ∀ μ, Inv μ → ∀ x1 : Int, C32 x1 → ∃ r μ1 μ2, ww_orders x1 μ = some (r, μ1) ∧ mod_orders x1 μ1 = some (r, μ2) ∧ Inv μ2
def E_whose (Inv : Mem → Prop) : Prop := ∀ μ, Inv μ → ∀ x1 : Int, C32 x1 → ∃ r μ1 μ2, ww_whose x1 μ = some (r, μ1) ∧ mod_whose x1 μ1 = some (r, μ2) ∧ Inv μ2
def E_keep (Inv : Mem → Prop) : Prop := ∀ μ, Inv μ → ∀ x1 : Int, C32 x1 → ∃ r μ1 μ2, ww_keep x1 μ = some (r, μ1) ∧ mod_keep x1 μ1 = some (r, μ2) ∧ Inv μ2
def E_back (Inv : Mem → Prop) : Prop := ∀ μ, Inv μ → ∀ x1 : Int, C32 x1 → ∃ r μ1 μ2, ww_back x1 μ = some (r, μ1) ∧ mod_back x1 μ1 = some (r, μ2) ∧ Inv μ2
def E_sheet (Inv : Mem → Prop) : Prop := ∀ μ, Inv μ → ∀ x1 x2 x3 : Int, C32 x1 → C32 x2 → C32 x3 → ∃ r μ1 μ2, ww_sheet x1 x2 x3 μ = some (r, μ1) ∧ mod_sheet x1 x2 x3 μ1 = some (r, μ2) ∧ Inv μ2
def E_lay (Inv : Mem → Prop) : Prop := ∀ μ, Inv μ → ∀ x1 x2 x3 : Int, C32 x1 → C32 x2 → C32 x3 → ∃ r μ1 μ2, ww_lay x1 x2 x3 μ = some (r, μ1) ∧ mod_lay x1 x2 x3 μ1 = some (r, μ2) ∧ Inv μ2
def E_read (Inv : Mem → Prop) : Prop := ∀ μ, Inv μ → ∀ x1 x2 x3 x4 : Int, C32 x1 → C32 x2 → C32 x3 → C32 x4 → ∃ r μ1 μ2, ww_read x1 x2 x3 x4 μ = some (r, μ1) ∧ mod_read x1 x2 x3 x4 μ1 = some (r, μ2) ∧ Inv μ2
def E_torn (Inv : Mem → Prop) : Prop := ∀ μ, Inv μ → ∃ r, ww_torn μ  = some r ∧ mod_torn μ  = some r ∧ Inv μ
def E_count (Inv : Mem → Prop) : Prop := ∀ μ, Inv μ → ∀ x1 : Int, C32 x1 → ∃ r, ww_count μ x1 = some r ∧ mod_count μ x1 = some r ∧ Inv μ
def EqAll (Inv : Mem → Prop) : Prop := E_feed Inv ∧ E_end Inv ∧ E_text Inv ∧ E_fault Inv ∧ E_yard Inv ∧ E_cart Inv ∧ E_frost Inv ∧ E_dig Inv ∧ E_fill Inv ∧ E_shoe Inv ∧ E_load Inv ∧ E_freeze Inv ∧ E_where Inv ∧ E_depth Inv ∧ E_paid Inv ∧ E_waited Inv ∧ E_done Inv ∧ E_jam Inv ∧ E_deepest Inv ∧ E_go Inv ∧ E_order Inv ∧ E_mend Inv ∧ E_way Inv ∧ E_can Inv ∧ E_cost Inv ∧ E_price Inv ∧ E_firm Inv ∧ E_shares Inv ∧ E_track Inv ∧ E_forget Inv ∧ E_orders Inv ∧ E_whose Inv ∧ E_keep Inv ∧ E_back Inv ∧ E_sheet Inv ∧ E_lay Inv ∧ E_read Inv ∧ E_torn Inv ∧ E_count Inv
theorem rl_sldk {l : Launch} {G : Nv} {b L : Nat} {xs : Nat → Int32} {pc pc' : Nat} {lv : List (Option MV)} {st : List MV} {μ : Mem} {i k : Nat} (hd : decode code pc = .ok (.iaload, 1)) (hp : pc + 1 = pc') (hL : L ≤ 2560) (h : i + k < L) (kk : RLw l G b L xs pc' lv (vI (xs (i + k)).toInt :: st) μ) : RLw l G b L xs pc lv (vI (wI ((i : Int) + (k : Int))) :: vR 150 :: st) μ := by
  have e : wI ((i : Int) + (k : Int)) = ((i + k : Nat) : Int) := by rw [wI_id (by omega)]; omega
  rw [e]
  refine rl_sld hd hp hL (by omega) (by omega) ?_
  rw [Int.toNat_natCast]
  exact kk
theorem law_feed {l : Launch} {G : Nv} {b L : Nat} {xs : Nat → Int32} {Inv : Mem → Prop} (hE : E_feed Inv) (hL : L ≤ 2560) {i : Nat} (hi : i + 5 ≤ L) {μ : Mem} (hI : Inv μ) (next : ∀ μ', Inv μ' → RLw l G b L xs 1377 [some (vR 150), some (vR 0), some (vR 61), some (vI (i : Int))] [] μ') : RLw l G b L xs 204 [some (vR 150), some (vR 0), some (vR 61), some (vI (i : Int))] [] μ := by
  obtain ⟨r, μ1, μ2, e1, e2, hI2⟩ := hE μ hI (lOr (lShl (xs (i + 1)).toInt 32) (lAnd (xs (i + 2)).toInt 4294967295)) (i64_C _)
  refine rl_aload_n (i := 1) (pc' := 205) dL_law_204 rfl rfl rfl ?_
  refine rl_aload_n (i := 0) (pc' := 206) dL_law_205 rfl rfl rfl ?_
  refine rl_iload_n (i := 3) (pc' := 207) dL_law_206 rfl rfl rfl ?_
  refine rl_iconst (pc' := 208) dL_law_207 rfl (by decide) ?_
  refine rl_iadd (pc' := 209) dL_law_208 rfl ?_
  refine rl_sldk (k := 1) (pc' := 210) dL_law_209 rfl hL (by omega) ?_
  refine rl_i2l (pc' := 211) dL_law_210 rfl ?_
  refine rl_bipush (pc' := 213) dL_law_211 rfl (by decide) (by decide) ?_
  refine rl_lshl (pc' := 214) dL_law_213 rfl ?_
  refine rl_aload_n (i := 0) (pc' := 215) dL_law_214 rfl rfl rfl ?_
  refine rl_iload_n (i := 3) (pc' := 216) dL_law_215 rfl rfl rfl ?_
  refine rl_iconst (pc' := 217) dL_law_216 rfl (by decide) ?_
  refine rl_iadd (pc' := 218) dL_law_217 rfl ?_
  refine rl_sldk (k := 2) (pc' := 219) dL_law_218 rfl hL (by omega) ?_
  refine rl_i2l (pc' := 220) dL_law_219 rfl ?_
  refine rl_ldc2 (x := 4294967295) (pc' := 223) dL_law_220 rfl (by decide) wl_0 ?_
  refine rl_land (pc' := 224) dL_law_223 rfl ?_
  refine rl_lor (pc' := 225) dL_law_224 rfl ?_
  refine rl_call1_IM (pc' := 228) (ww_feed_sp (lOr (lShl (xs (i + 1)).toInt 32) (lAnd (xs (i + 2)).toInt 4294967295)) μ) e1 dL_law_225 rfl mg_X8_feed mi_X8_feed (Or.inl ⟨8, _, TX8, 11, s88_0, rfl⟩) (by decide) ⟨Nat.le_of_ble_eq_true rfl, Nat.le_of_ble_eq_true rfl⟩ wl_1 (Nat.le_of_ble_eq_true rfl) (fun _ => ?_)
  refine rl_aload_n (i := 2) (pc' := 229) dL_law_228 rfl rfl rfl ?_
  refine rl_aload_n (i := 0) (pc' := 230) dL_law_229 rfl rfl rfl ?_
  refine rl_iload_n (i := 3) (pc' := 231) dL_law_230 rfl rfl rfl ?_
  refine rl_iconst (pc' := 232) dL_law_231 rfl (by decide) ?_
  refine rl_iadd (pc' := 233) dL_law_232 rfl ?_
  refine rl_sldk (k := 1) (pc' := 234) dL_law_233 rfl hL (by omega) ?_
  refine rl_i2l (pc' := 235) dL_law_234 rfl ?_
  refine rl_bipush (pc' := 237) dL_law_235 rfl (by decide) (by decide) ?_
  refine rl_lshl (pc' := 238) dL_law_237 rfl ?_
  refine rl_aload_n (i := 0) (pc' := 239) dL_law_238 rfl rfl rfl ?_
  refine rl_iload_n (i := 3) (pc' := 240) dL_law_239 rfl rfl rfl ?_
  refine rl_iconst (pc' := 241) dL_law_240 rfl (by decide) ?_
  refine rl_iadd (pc' := 242) dL_law_241 rfl ?_
  refine rl_sldk (k := 2) (pc' := 243) dL_law_242 rfl hL (by omega) ?_
  refine rl_i2l (pc' := 244) dL_law_243 rfl ?_
  refine rl_ldc2 (x := 4294967295) (pc' := 247) dL_law_244 rfl (by decide) wl_0 ?_
  refine rl_land (pc' := 248) dL_law_247 rfl ?_
  refine rl_lor (pc' := 249) dL_law_248 rfl ?_
  refine rl_call1_IM (pc' := 252) (mod_feed_sp (lOr (lShl (xs (i + 1)).toInt 32) (lAnd (xs (i + 2)).toInt 4294967295)) μ1) e2 dL_law_249 rfl mg_X9_feed mi_X9_feed (Or.inl ⟨9, _, TX9, 40, s88_61, rfl⟩) (by decide) ⟨Nat.le_of_ble_eq_true rfl, Nat.le_of_ble_eq_true rfl⟩ wl_2 (Nat.le_of_ble_eq_true rfl) (fun _ => ?_)
  refine rl_icmp_eq (tgt := 1377) dL_law_252 rfl rfl ?_
  exact next μ2 hI2
theorem law_end {l : Launch} {G : Nv} {b L : Nat} {xs : Nat → Int32} {Inv : Mem → Prop} (hE : E_end Inv) (hL : L ≤ 2560) {i : Nat} (hi : i + 5 ≤ L) {μ : Mem} (hI : Inv μ) (next : ∀ μ', Inv μ' → RLw l G b L xs 1377 [some (vR 150), some (vR 0), some (vR 61), some (vI (i : Int))] [] μ') : RLw l G b L xs 257 [some (vR 150), some (vR 0), some (vR 61), some (vI (i : Int))] [] μ := by
  obtain ⟨r, μ1, μ2, e1, e2, hI2⟩ := hE μ hI ((xs (i + 1)).toInt) (i32_C _)
  refine rl_aload_n (i := 1) (pc' := 258) dL_law_257 rfl rfl rfl ?_
  refine rl_aload_n (i := 0) (pc' := 259) dL_law_258 rfl rfl rfl ?_
  refine rl_iload_n (i := 3) (pc' := 260) dL_law_259 rfl rfl rfl ?_
  refine rl_iconst (pc' := 261) dL_law_260 rfl (by decide) ?_
  refine rl_iadd (pc' := 262) dL_law_261 rfl ?_
  refine rl_sldk (k := 1) (pc' := 263) dL_law_262 rfl hL (by omega) ?_
  refine rl_call1_IM (pc' := 266) (ww_end_sp ((xs (i + 1)).toInt) μ) e1 dL_law_263 rfl mg_X8_end mi_X8_end (Or.inl ⟨8, _, TX8, 11, s88_0, rfl⟩) (by decide) ⟨Nat.le_of_ble_eq_true rfl, Nat.le_of_ble_eq_true rfl⟩ wl_3 (Nat.le_of_ble_eq_true rfl) (fun _ => ?_)
  refine rl_aload_n (i := 2) (pc' := 267) dL_law_266 rfl rfl rfl ?_
  refine rl_aload_n (i := 0) (pc' := 268) dL_law_267 rfl rfl rfl ?_
  refine rl_iload_n (i := 3) (pc' := 269) dL_law_268 rfl rfl rfl ?_
  refine rl_iconst (pc' := 270) dL_law_269 rfl (by decide) ?_
  refine rl_iadd (pc' := 271) dL_law_270 rfl ?_
  refine rl_sldk (k := 1) (pc' := 272) dL_law_271 rfl hL (by omega) ?_
  refine rl_call1_IM (pc' := 275) (mod_end_sp ((xs (i + 1)).toInt) μ1) e2 dL_law_272 rfl mg_X9_end mi_X9_end (Or.inl ⟨9, _, TX9, 40, s88_61, rfl⟩) (by decide) ⟨Nat.le_of_ble_eq_true rfl, Nat.le_of_ble_eq_true rfl⟩ wl_4 (Nat.le_of_ble_eq_true rfl) (fun _ => ?_)
  refine rl_icmp_eq (tgt := 1377) dL_law_275 rfl rfl ?_
  exact next μ2 hI2
theorem law_text {l : Launch} {G : Nv} {b L : Nat} {xs : Nat → Int32} {Inv : Mem → Prop} (hE : E_text Inv) (hL : L ≤ 2560) {i : Nat} (hi : i + 5 ≤ L) {μ : Mem} (hI : Inv μ) (next : ∀ μ', Inv μ' → RLw l G b L xs 1377 [some (vR 150), some (vR 0), some (vR 61), some (vI (i : Int))] [] μ') : RLw l G b L xs 280 [some (vR 150), some (vR 0), some (vR 61), some (vI (i : Int))] [] μ := by
  obtain ⟨r, μ1, μ2, e1, e2, hI2⟩ := hE μ hI  
  refine rl_aload_n (i := 1) (pc' := 281) dL_law_280 rfl rfl rfl ?_
  refine rl_call0_IM (pc' := 284) (ww_text_sp  μ) e1 dL_law_281 rfl mg_X8_text mi_X8_text (Or.inl ⟨8, _, TX8, 11, s88_0, rfl⟩) (by decide) ⟨Nat.le_of_ble_eq_true rfl, Nat.le_of_ble_eq_true rfl⟩ wl_5 (Nat.le_of_ble_eq_true rfl) (fun _ => ?_)
  refine rl_aload_n (i := 2) (pc' := 285) dL_law_284 rfl rfl rfl ?_
  refine rl_call0_IM (pc' := 288) (mod_text_sp  μ1) e2 dL_law_285 rfl mg_X9_text mi_X9_text (Or.inl ⟨9, _, TX9, 40, s88_61, rfl⟩) (by decide) ⟨Nat.le_of_ble_eq_true rfl, Nat.le_of_ble_eq_true rfl⟩ wl_6 (Nat.le_of_ble_eq_true rfl) (fun _ => ?_)
  refine rl_icmp_eq (tgt := 1377) dL_law_288 rfl rfl ?_
  exact next μ2 hI2
theorem law_fault {l : Launch} {G : Nv} {b L : Nat} {xs : Nat → Int32} {Inv : Mem → Prop} (hE : E_fault Inv) (hL : L ≤ 2560) {i : Nat} (hi : i + 5 ≤ L) {μ : Mem} (hI : Inv μ) (next : ∀ μ', Inv μ' → RLw l G b L xs 1377 [some (vR 150), some (vR 0), some (vR 61), some (vI (i : Int))] [] μ') : RLw l G b L xs 293 [some (vR 150), some (vR 0), some (vR 61), some (vI (i : Int))] [] μ := by
  obtain ⟨r, e1, e2, hI2⟩ := hE μ hI  
  refine rl_aload_n (i := 1) (pc' := 294) dL_law_293 rfl rfl rfl ?_
  refine rl_call0_I (pc' := 297) (ww_fault_sp  μ) e1 dL_law_294 rfl mg_X8_fault mi_X8_fault (Or.inl ⟨8, _, TX8, 11, s88_0, rfl⟩) (by decide) ⟨Nat.le_of_ble_eq_true rfl, Nat.le_of_ble_eq_true rfl⟩ wl_7 (Nat.le_of_ble_eq_true rfl) (fun _ => ?_)
  refine rl_aload_n (i := 2) (pc' := 298) dL_law_297 rfl rfl rfl ?_
  refine rl_call0_I (pc' := 301) (mod_fault_sp  μ) e2 dL_law_298 rfl mg_X9_fault mi_X9_fault (Or.inl ⟨9, _, TX9, 40, s88_61, rfl⟩) (by decide) ⟨Nat.le_of_ble_eq_true rfl, Nat.le_of_ble_eq_true rfl⟩ wl_8 (Nat.le_of_ble_eq_true rfl) (fun _ => ?_)
  refine rl_icmp_eq (tgt := 1377) dL_law_301 rfl rfl ?_
  exact next μ hI2
theorem law_yard {l : Launch} {G : Nv} {b L : Nat} {xs : Nat → Int32} {Inv : Mem → Prop} (hE : E_yard Inv) (hL : L ≤ 2560) {i : Nat} (hi : i + 5 ≤ L) {μ : Mem} (hI : Inv μ) (next : ∀ μ', Inv μ' → RLw l G b L xs 1377 [some (vR 150), some (vR 0), some (vR 61), some (vI (i : Int))] [] μ') : RLw l G b L xs 306 [some (vR 150), some (vR 0), some (vR 61), some (vI (i : Int))] [] μ := by
  obtain ⟨r, e1, e2, hI2⟩ := hE μ hI ((xs (i + 1)).toInt) ((xs (i + 2)).toInt) (i32_C _) (i32_C _)
  refine rl_aload_n (i := 1) (pc' := 307) dL_law_306 rfl rfl rfl ?_
  refine rl_aload_n (i := 0) (pc' := 308) dL_law_307 rfl rfl rfl ?_
  refine rl_iload_n (i := 3) (pc' := 309) dL_law_308 rfl rfl rfl ?_
  refine rl_iconst (pc' := 310) dL_law_309 rfl (by decide) ?_
  refine rl_iadd (pc' := 311) dL_law_310 rfl ?_
  refine rl_sldk (k := 1) (pc' := 312) dL_law_311 rfl hL (by omega) ?_
  refine rl_aload_n (i := 0) (pc' := 313) dL_law_312 rfl rfl rfl ?_
  refine rl_iload_n (i := 3) (pc' := 314) dL_law_313 rfl rfl rfl ?_
  refine rl_iconst (pc' := 315) dL_law_314 rfl (by decide) ?_
  refine rl_iadd (pc' := 316) dL_law_315 rfl ?_
  refine rl_sldk (k := 2) (pc' := 317) dL_law_316 rfl hL (by omega) ?_
  refine rl_call2_I (pc' := 320) (ww_yard_sp ((xs (i + 1)).toInt) ((xs (i + 2)).toInt) μ) e1 dL_law_317 rfl mg_X8_yard mi_X8_yard (Or.inl ⟨8, _, TX8, 11, s88_0, rfl⟩) (by decide) ⟨Nat.le_of_ble_eq_true rfl, Nat.le_of_ble_eq_true rfl⟩ wl_9 (Nat.le_of_ble_eq_true rfl) (fun _ => ?_)
  refine rl_aload_n (i := 2) (pc' := 321) dL_law_320 rfl rfl rfl ?_
  refine rl_aload_n (i := 0) (pc' := 322) dL_law_321 rfl rfl rfl ?_
  refine rl_iload_n (i := 3) (pc' := 323) dL_law_322 rfl rfl rfl ?_
  refine rl_iconst (pc' := 324) dL_law_323 rfl (by decide) ?_
  refine rl_iadd (pc' := 325) dL_law_324 rfl ?_
  refine rl_sldk (k := 1) (pc' := 326) dL_law_325 rfl hL (by omega) ?_
  refine rl_aload_n (i := 0) (pc' := 327) dL_law_326 rfl rfl rfl ?_
  refine rl_iload_n (i := 3) (pc' := 328) dL_law_327 rfl rfl rfl ?_
  refine rl_iconst (pc' := 329) dL_law_328 rfl (by decide) ?_
  refine rl_iadd (pc' := 330) dL_law_329 rfl ?_
  refine rl_sldk (k := 2) (pc' := 331) dL_law_330 rfl hL (by omega) ?_
  refine rl_call2_I (pc' := 334) (mod_yard_sp ((xs (i + 1)).toInt) ((xs (i + 2)).toInt) μ) e2 dL_law_331 rfl mg_X9_yard mi_X9_yard (Or.inl ⟨9, _, TX9, 40, s88_61, rfl⟩) (by decide) ⟨Nat.le_of_ble_eq_true rfl, Nat.le_of_ble_eq_true rfl⟩ wl_10 (Nat.le_of_ble_eq_true rfl) (fun _ => ?_)
  refine rl_icmp_eq (tgt := 1377) dL_law_334 rfl rfl ?_
  exact next μ hI2
theorem law_cart {l : Launch} {G : Nv} {b L : Nat} {xs : Nat → Int32} {Inv : Mem → Prop} (hE : E_cart Inv) (hL : L ≤ 2560) {i : Nat} (hi : i + 5 ≤ L) {μ : Mem} (hI : Inv μ) (next : ∀ μ', Inv μ' → RLw l G b L xs 1377 [some (vR 150), some (vR 0), some (vR 61), some (vI (i : Int))] [] μ') : RLw l G b L xs 339 [some (vR 150), some (vR 0), some (vR 61), some (vI (i : Int))] [] μ := by
  obtain ⟨r, e1, e2, hI2⟩ := hE μ hI ((xs (i + 1)).toInt) ((xs (i + 2)).toInt) (i32_C _) (i32_C _)
  refine rl_aload_n (i := 1) (pc' := 340) dL_law_339 rfl rfl rfl ?_
  refine rl_aload_n (i := 0) (pc' := 341) dL_law_340 rfl rfl rfl ?_
  refine rl_iload_n (i := 3) (pc' := 342) dL_law_341 rfl rfl rfl ?_
  refine rl_iconst (pc' := 343) dL_law_342 rfl (by decide) ?_
  refine rl_iadd (pc' := 344) dL_law_343 rfl ?_
  refine rl_sldk (k := 1) (pc' := 345) dL_law_344 rfl hL (by omega) ?_
  refine rl_aload_n (i := 0) (pc' := 346) dL_law_345 rfl rfl rfl ?_
  refine rl_iload_n (i := 3) (pc' := 347) dL_law_346 rfl rfl rfl ?_
  refine rl_iconst (pc' := 348) dL_law_347 rfl (by decide) ?_
  refine rl_iadd (pc' := 349) dL_law_348 rfl ?_
  refine rl_sldk (k := 2) (pc' := 350) dL_law_349 rfl hL (by omega) ?_
  refine rl_call2_I (pc' := 353) (ww_cart_sp ((xs (i + 1)).toInt) ((xs (i + 2)).toInt) μ) e1 dL_law_350 rfl mg_X8_cart mi_X8_cart (Or.inl ⟨8, _, TX8, 11, s88_0, rfl⟩) (by decide) ⟨Nat.le_of_ble_eq_true rfl, Nat.le_of_ble_eq_true rfl⟩ wl_11 (Nat.le_of_ble_eq_true rfl) (fun _ => ?_)
  refine rl_aload_n (i := 2) (pc' := 354) dL_law_353 rfl rfl rfl ?_
  refine rl_aload_n (i := 0) (pc' := 355) dL_law_354 rfl rfl rfl ?_
  refine rl_iload_n (i := 3) (pc' := 356) dL_law_355 rfl rfl rfl ?_
  refine rl_iconst (pc' := 357) dL_law_356 rfl (by decide) ?_
  refine rl_iadd (pc' := 358) dL_law_357 rfl ?_
  refine rl_sldk (k := 1) (pc' := 359) dL_law_358 rfl hL (by omega) ?_
  refine rl_aload_n (i := 0) (pc' := 360) dL_law_359 rfl rfl rfl ?_
  refine rl_iload_n (i := 3) (pc' := 361) dL_law_360 rfl rfl rfl ?_
  refine rl_iconst (pc' := 362) dL_law_361 rfl (by decide) ?_
  refine rl_iadd (pc' := 363) dL_law_362 rfl ?_
  refine rl_sldk (k := 2) (pc' := 364) dL_law_363 rfl hL (by omega) ?_
  refine rl_call2_I (pc' := 367) (mod_cart_sp ((xs (i + 1)).toInt) ((xs (i + 2)).toInt) μ) e2 dL_law_364 rfl mg_X9_cart mi_X9_cart (Or.inl ⟨9, _, TX9, 40, s88_61, rfl⟩) (by decide) ⟨Nat.le_of_ble_eq_true rfl, Nat.le_of_ble_eq_true rfl⟩ wl_12 (Nat.le_of_ble_eq_true rfl) (fun _ => ?_)
  refine rl_icmp_eq (tgt := 1377) dL_law_367 rfl rfl ?_
  exact next μ hI2
theorem law_frost {l : Launch} {G : Nv} {b L : Nat} {xs : Nat → Int32} {Inv : Mem → Prop} (hE : E_frost Inv) (hL : L ≤ 2560) {i : Nat} (hi : i + 5 ≤ L) {μ : Mem} (hI : Inv μ) (next : ∀ μ', Inv μ' → RLw l G b L xs 1377 [some (vR 150), some (vR 0), some (vR 61), some (vI (i : Int))] [] μ') : RLw l G b L xs 372 [some (vR 150), some (vR 0), some (vR 61), some (vI (i : Int))] [] μ := by
  obtain ⟨r, e1, e2, hI2⟩ := hE μ hI ((xs (i + 1)).toInt) (i32_C _)
  refine rl_aload_n (i := 1) (pc' := 373) dL_law_372 rfl rfl rfl ?_
  refine rl_aload_n (i := 0) (pc' := 374) dL_law_373 rfl rfl rfl ?_
  refine rl_iload_n (i := 3) (pc' := 375) dL_law_374 rfl rfl rfl ?_
  refine rl_iconst (pc' := 376) dL_law_375 rfl (by decide) ?_
  refine rl_iadd (pc' := 377) dL_law_376 rfl ?_
  refine rl_sldk (k := 1) (pc' := 378) dL_law_377 rfl hL (by omega) ?_
  refine rl_call1_I (pc' := 381) (ww_frost_sp ((xs (i + 1)).toInt) μ) e1 dL_law_378 rfl mg_X8_frost mi_X8_frost (Or.inl ⟨8, _, TX8, 11, s88_0, rfl⟩) (by decide) ⟨Nat.le_of_ble_eq_true rfl, Nat.le_of_ble_eq_true rfl⟩ wl_13 (Nat.le_of_ble_eq_true rfl) (fun _ => ?_)
  refine rl_aload_n (i := 2) (pc' := 382) dL_law_381 rfl rfl rfl ?_
  refine rl_aload_n (i := 0) (pc' := 383) dL_law_382 rfl rfl rfl ?_
  refine rl_iload_n (i := 3) (pc' := 384) dL_law_383 rfl rfl rfl ?_
  refine rl_iconst (pc' := 385) dL_law_384 rfl (by decide) ?_
  refine rl_iadd (pc' := 386) dL_law_385 rfl ?_
  refine rl_sldk (k := 1) (pc' := 387) dL_law_386 rfl hL (by omega) ?_
  refine rl_call1_I (pc' := 390) (mod_frost_sp ((xs (i + 1)).toInt) μ) e2 dL_law_387 rfl mg_X9_frost mi_X9_frost (Or.inl ⟨9, _, TX9, 40, s88_61, rfl⟩) (by decide) ⟨Nat.le_of_ble_eq_true rfl, Nat.le_of_ble_eq_true rfl⟩ wl_14 (Nat.le_of_ble_eq_true rfl) (fun _ => ?_)
  refine rl_icmp_eq (tgt := 1377) dL_law_390 rfl rfl ?_
  exact next μ hI2
theorem law_dig {l : Launch} {G : Nv} {b L : Nat} {xs : Nat → Int32} {Inv : Mem → Prop} (hE : E_dig Inv) (hL : L ≤ 2560) {i : Nat} (hi : i + 5 ≤ L) {μ : Mem} (hI : Inv μ) (next : ∀ μ', Inv μ' → RLw l G b L xs 1377 [some (vR 150), some (vR 0), some (vR 61), some (vI (i : Int))] [] μ') : RLw l G b L xs 395 [some (vR 150), some (vR 0), some (vR 61), some (vI (i : Int))] [] μ := by
  obtain ⟨r, μ1, μ2, e1, e2, hI2⟩ := hE μ hI ((xs (i + 1)).toInt) ((xs (i + 2)).toInt) ((xs (i + 3)).toInt) (i32_C _) (i32_C _) (i32_C _)
  refine rl_aload_n (i := 1) (pc' := 396) dL_law_395 rfl rfl rfl ?_
  refine rl_aload_n (i := 0) (pc' := 397) dL_law_396 rfl rfl rfl ?_
  refine rl_iload_n (i := 3) (pc' := 398) dL_law_397 rfl rfl rfl ?_
  refine rl_iconst (pc' := 399) dL_law_398 rfl (by decide) ?_
  refine rl_iadd (pc' := 400) dL_law_399 rfl ?_
  refine rl_sldk (k := 1) (pc' := 401) dL_law_400 rfl hL (by omega) ?_
  refine rl_aload_n (i := 0) (pc' := 402) dL_law_401 rfl rfl rfl ?_
  refine rl_iload_n (i := 3) (pc' := 403) dL_law_402 rfl rfl rfl ?_
  refine rl_iconst (pc' := 404) dL_law_403 rfl (by decide) ?_
  refine rl_iadd (pc' := 405) dL_law_404 rfl ?_
  refine rl_sldk (k := 2) (pc' := 406) dL_law_405 rfl hL (by omega) ?_
  refine rl_aload_n (i := 0) (pc' := 407) dL_law_406 rfl rfl rfl ?_
  refine rl_iload_n (i := 3) (pc' := 408) dL_law_407 rfl rfl rfl ?_
  refine rl_iconst (pc' := 409) dL_law_408 rfl (by decide) ?_
  refine rl_iadd (pc' := 410) dL_law_409 rfl ?_
  refine rl_sldk (k := 3) (pc' := 411) dL_law_410 rfl hL (by omega) ?_
  refine rl_call3_IM (pc' := 414) (ww_dig_sp ((xs (i + 1)).toInt) ((xs (i + 2)).toInt) ((xs (i + 3)).toInt) μ) e1 dL_law_411 rfl mg_X8_dig mi_X8_dig (Or.inl ⟨8, _, TX8, 11, s88_0, rfl⟩) (by decide) ⟨Nat.le_of_ble_eq_true rfl, Nat.le_of_ble_eq_true rfl⟩ wl_15 (Nat.le_of_ble_eq_true rfl) (fun _ => ?_)
  refine rl_aload_n (i := 2) (pc' := 415) dL_law_414 rfl rfl rfl ?_
  refine rl_aload_n (i := 0) (pc' := 416) dL_law_415 rfl rfl rfl ?_
  refine rl_iload_n (i := 3) (pc' := 417) dL_law_416 rfl rfl rfl ?_
  refine rl_iconst (pc' := 418) dL_law_417 rfl (by decide) ?_
  refine rl_iadd (pc' := 419) dL_law_418 rfl ?_
  refine rl_sldk (k := 1) (pc' := 420) dL_law_419 rfl hL (by omega) ?_
  refine rl_aload_n (i := 0) (pc' := 421) dL_law_420 rfl rfl rfl ?_
  refine rl_iload_n (i := 3) (pc' := 422) dL_law_421 rfl rfl rfl ?_
  refine rl_iconst (pc' := 423) dL_law_422 rfl (by decide) ?_
  refine rl_iadd (pc' := 424) dL_law_423 rfl ?_
  refine rl_sldk (k := 2) (pc' := 425) dL_law_424 rfl hL (by omega) ?_
  refine rl_aload_n (i := 0) (pc' := 426) dL_law_425 rfl rfl rfl ?_
  refine rl_iload_n (i := 3) (pc' := 427) dL_law_426 rfl rfl rfl ?_
  refine rl_iconst (pc' := 428) dL_law_427 rfl (by decide) ?_
  refine rl_iadd (pc' := 429) dL_law_428 rfl ?_
  refine rl_sldk (k := 3) (pc' := 430) dL_law_429 rfl hL (by omega) ?_
  refine rl_call3_IM (pc' := 433) (mod_dig_sp ((xs (i + 1)).toInt) ((xs (i + 2)).toInt) ((xs (i + 3)).toInt) μ1) e2 dL_law_430 rfl mg_X9_dig mi_X9_dig (Or.inl ⟨9, _, TX9, 40, s88_61, rfl⟩) (by decide) ⟨Nat.le_of_ble_eq_true rfl, Nat.le_of_ble_eq_true rfl⟩ wl_16 (Nat.le_of_ble_eq_true rfl) (fun _ => ?_)
  refine rl_icmp_eq (tgt := 1377) dL_law_433 rfl rfl ?_
  exact next μ2 hI2
theorem law_fill {l : Launch} {G : Nv} {b L : Nat} {xs : Nat → Int32} {Inv : Mem → Prop} (hE : E_fill Inv) (hL : L ≤ 2560) {i : Nat} (hi : i + 5 ≤ L) {μ : Mem} (hI : Inv μ) (next : ∀ μ', Inv μ' → RLw l G b L xs 1377 [some (vR 150), some (vR 0), some (vR 61), some (vI (i : Int))] [] μ') : RLw l G b L xs 438 [some (vR 150), some (vR 0), some (vR 61), some (vI (i : Int))] [] μ := by
  obtain ⟨r, μ1, μ2, e1, e2, hI2⟩ := hE μ hI ((xs (i + 1)).toInt) (i32_C _)
  refine rl_aload_n (i := 1) (pc' := 439) dL_law_438 rfl rfl rfl ?_
  refine rl_aload_n (i := 0) (pc' := 440) dL_law_439 rfl rfl rfl ?_
  refine rl_iload_n (i := 3) (pc' := 441) dL_law_440 rfl rfl rfl ?_
  refine rl_iconst (pc' := 442) dL_law_441 rfl (by decide) ?_
  refine rl_iadd (pc' := 443) dL_law_442 rfl ?_
  refine rl_sldk (k := 1) (pc' := 444) dL_law_443 rfl hL (by omega) ?_
  refine rl_call1_IM (pc' := 447) (ww_fill_sp ((xs (i + 1)).toInt) μ) e1 dL_law_444 rfl mg_X8_fill mi_X8_fill (Or.inl ⟨8, _, TX8, 11, s88_0, rfl⟩) (by decide) ⟨Nat.le_of_ble_eq_true rfl, Nat.le_of_ble_eq_true rfl⟩ wl_17 (Nat.le_of_ble_eq_true rfl) (fun _ => ?_)
  refine rl_aload_n (i := 2) (pc' := 448) dL_law_447 rfl rfl rfl ?_
  refine rl_aload_n (i := 0) (pc' := 449) dL_law_448 rfl rfl rfl ?_
  refine rl_iload_n (i := 3) (pc' := 450) dL_law_449 rfl rfl rfl ?_
  refine rl_iconst (pc' := 451) dL_law_450 rfl (by decide) ?_
  refine rl_iadd (pc' := 452) dL_law_451 rfl ?_
  refine rl_sldk (k := 1) (pc' := 453) dL_law_452 rfl hL (by omega) ?_
  refine rl_call1_IM (pc' := 456) (mod_fill_sp ((xs (i + 1)).toInt) μ1) e2 dL_law_453 rfl mg_X9_fill mi_X9_fill (Or.inl ⟨9, _, TX9, 40, s88_61, rfl⟩) (by decide) ⟨Nat.le_of_ble_eq_true rfl, Nat.le_of_ble_eq_true rfl⟩ wl_18 (Nat.le_of_ble_eq_true rfl) (fun _ => ?_)
  refine rl_icmp_eq (tgt := 1377) dL_law_456 rfl rfl ?_
  exact next μ2 hI2
theorem law_shoe {l : Launch} {G : Nv} {b L : Nat} {xs : Nat → Int32} {Inv : Mem → Prop} (hE : E_shoe Inv) (hL : L ≤ 2560) {i : Nat} (hi : i + 5 ≤ L) {μ : Mem} (hI : Inv μ) (next : ∀ μ', Inv μ' → RLw l G b L xs 1377 [some (vR 150), some (vR 0), some (vR 61), some (vI (i : Int))] [] μ') : RLw l G b L xs 461 [some (vR 150), some (vR 0), some (vR 61), some (vI (i : Int))] [] μ := by
  obtain ⟨r, μ1, μ2, e1, e2, hI2⟩ := hE μ hI ((xs (i + 1)).toInt) ((xs (i + 2)).toInt) (i32_C _) (i32_C _)
  refine rl_aload_n (i := 1) (pc' := 462) dL_law_461 rfl rfl rfl ?_
  refine rl_aload_n (i := 0) (pc' := 463) dL_law_462 rfl rfl rfl ?_
  refine rl_iload_n (i := 3) (pc' := 464) dL_law_463 rfl rfl rfl ?_
  refine rl_iconst (pc' := 465) dL_law_464 rfl (by decide) ?_
  refine rl_iadd (pc' := 466) dL_law_465 rfl ?_
  refine rl_sldk (k := 1) (pc' := 467) dL_law_466 rfl hL (by omega) ?_
  refine rl_aload_n (i := 0) (pc' := 468) dL_law_467 rfl rfl rfl ?_
  refine rl_iload_n (i := 3) (pc' := 469) dL_law_468 rfl rfl rfl ?_
  refine rl_iconst (pc' := 470) dL_law_469 rfl (by decide) ?_
  refine rl_iadd (pc' := 471) dL_law_470 rfl ?_
  refine rl_sldk (k := 2) (pc' := 472) dL_law_471 rfl hL (by omega) ?_
  refine rl_call2_IM (pc' := 475) (ww_shoe_sp ((xs (i + 1)).toInt) ((xs (i + 2)).toInt) μ) e1 dL_law_472 rfl mg_X8_shoe mi_X8_shoe (Or.inl ⟨8, _, TX8, 11, s88_0, rfl⟩) (by decide) ⟨Nat.le_of_ble_eq_true rfl, Nat.le_of_ble_eq_true rfl⟩ wl_19 (Nat.le_of_ble_eq_true rfl) (fun _ => ?_)
  refine rl_aload_n (i := 2) (pc' := 476) dL_law_475 rfl rfl rfl ?_
  refine rl_aload_n (i := 0) (pc' := 477) dL_law_476 rfl rfl rfl ?_
  refine rl_iload_n (i := 3) (pc' := 478) dL_law_477 rfl rfl rfl ?_
  refine rl_iconst (pc' := 479) dL_law_478 rfl (by decide) ?_
  refine rl_iadd (pc' := 480) dL_law_479 rfl ?_
  refine rl_sldk (k := 1) (pc' := 481) dL_law_480 rfl hL (by omega) ?_
  refine rl_aload_n (i := 0) (pc' := 482) dL_law_481 rfl rfl rfl ?_
  refine rl_iload_n (i := 3) (pc' := 483) dL_law_482 rfl rfl rfl ?_
  refine rl_iconst (pc' := 484) dL_law_483 rfl (by decide) ?_
  refine rl_iadd (pc' := 485) dL_law_484 rfl ?_
  refine rl_sldk (k := 2) (pc' := 486) dL_law_485 rfl hL (by omega) ?_
  refine rl_call2_IM (pc' := 489) (mod_shoe_sp ((xs (i + 1)).toInt) ((xs (i + 2)).toInt) μ1) e2 dL_law_486 rfl mg_X9_shoe mi_X9_shoe (Or.inl ⟨9, _, TX9, 40, s88_61, rfl⟩) (by decide) ⟨Nat.le_of_ble_eq_true rfl, Nat.le_of_ble_eq_true rfl⟩ wl_20 (Nat.le_of_ble_eq_true rfl) (fun _ => ?_)
  refine rl_icmp_eq (tgt := 1377) dL_law_489 rfl rfl ?_
  exact next μ2 hI2
theorem law_load {l : Launch} {G : Nv} {b L : Nat} {xs : Nat → Int32} {Inv : Mem → Prop} (hE : E_load Inv) (hL : L ≤ 2560) {i : Nat} (hi : i + 5 ≤ L) {μ : Mem} (hI : Inv μ) (next : ∀ μ', Inv μ' → RLw l G b L xs 1377 [some (vR 150), some (vR 0), some (vR 61), some (vI (i : Int))] [] μ') : RLw l G b L xs 494 [some (vR 150), some (vR 0), some (vR 61), some (vI (i : Int))] [] μ := by
  obtain ⟨r, μ1, μ2, e1, e2, hI2⟩ := hE μ hI ((xs (i + 1)).toInt) ((xs (i + 2)).toInt) (i32_C _) (i32_C _)
  refine rl_aload_n (i := 1) (pc' := 495) dL_law_494 rfl rfl rfl ?_
  refine rl_aload_n (i := 0) (pc' := 496) dL_law_495 rfl rfl rfl ?_
  refine rl_iload_n (i := 3) (pc' := 497) dL_law_496 rfl rfl rfl ?_
  refine rl_iconst (pc' := 498) dL_law_497 rfl (by decide) ?_
  refine rl_iadd (pc' := 499) dL_law_498 rfl ?_
  refine rl_sldk (k := 1) (pc' := 500) dL_law_499 rfl hL (by omega) ?_
  refine rl_aload_n (i := 0) (pc' := 501) dL_law_500 rfl rfl rfl ?_
  refine rl_iload_n (i := 3) (pc' := 502) dL_law_501 rfl rfl rfl ?_
  refine rl_iconst (pc' := 503) dL_law_502 rfl (by decide) ?_
  refine rl_iadd (pc' := 504) dL_law_503 rfl ?_
  refine rl_sldk (k := 2) (pc' := 505) dL_law_504 rfl hL (by omega) ?_
  refine rl_call2_IM (pc' := 508) (ww_load_sp ((xs (i + 1)).toInt) ((xs (i + 2)).toInt) μ) e1 dL_law_505 rfl mg_X8_load mi_X8_load (Or.inl ⟨8, _, TX8, 11, s88_0, rfl⟩) (by decide) ⟨Nat.le_of_ble_eq_true rfl, Nat.le_of_ble_eq_true rfl⟩ wl_21 (Nat.le_of_ble_eq_true rfl) (fun _ => ?_)
  refine rl_aload_n (i := 2) (pc' := 509) dL_law_508 rfl rfl rfl ?_
  refine rl_aload_n (i := 0) (pc' := 510) dL_law_509 rfl rfl rfl ?_
  refine rl_iload_n (i := 3) (pc' := 511) dL_law_510 rfl rfl rfl ?_
  refine rl_iconst (pc' := 512) dL_law_511 rfl (by decide) ?_
  refine rl_iadd (pc' := 513) dL_law_512 rfl ?_
  refine rl_sldk (k := 1) (pc' := 514) dL_law_513 rfl hL (by omega) ?_
  refine rl_aload_n (i := 0) (pc' := 515) dL_law_514 rfl rfl rfl ?_
  refine rl_iload_n (i := 3) (pc' := 516) dL_law_515 rfl rfl rfl ?_
  refine rl_iconst (pc' := 517) dL_law_516 rfl (by decide) ?_
  refine rl_iadd (pc' := 518) dL_law_517 rfl ?_
  refine rl_sldk (k := 2) (pc' := 519) dL_law_518 rfl hL (by omega) ?_
  refine rl_call2_IM (pc' := 522) (mod_load_sp ((xs (i + 1)).toInt) ((xs (i + 2)).toInt) μ1) e2 dL_law_519 rfl mg_X9_load mi_X9_load (Or.inl ⟨9, _, TX9, 40, s88_61, rfl⟩) (by decide) ⟨Nat.le_of_ble_eq_true rfl, Nat.le_of_ble_eq_true rfl⟩ wl_22 (Nat.le_of_ble_eq_true rfl) (fun _ => ?_)
  refine rl_icmp_eq (tgt := 1377) dL_law_522 rfl rfl ?_
  exact next μ2 hI2
theorem law_freeze {l : Launch} {G : Nv} {b L : Nat} {xs : Nat → Int32} {Inv : Mem → Prop} (hE : E_freeze Inv) (hL : L ≤ 2560) {i : Nat} (hi : i + 5 ≤ L) {μ : Mem} (hI : Inv μ) (next : ∀ μ', Inv μ' → RLw l G b L xs 1377 [some (vR 150), some (vR 0), some (vR 61), some (vI (i : Int))] [] μ') : RLw l G b L xs 527 [some (vR 150), some (vR 0), some (vR 61), some (vI (i : Int))] [] μ := by
  by_cases hz : (xs (i + 2)).toInt = 0
  · obtain ⟨r, μ1, μ2, e1, e2, hI2⟩ := hE μ hI ((xs (i + 1)).toInt) 0 (i32_C _) (Or.inl rfl)
    refine rl_aload_n (i := 1) (pc' := 528) dL_law_527 rfl rfl rfl ?_
    refine rl_aload_n (i := 0) (pc' := 529) dL_law_528 rfl rfl rfl ?_
    refine rl_iload_n (i := 3) (pc' := 530) dL_law_529 rfl rfl rfl ?_
    refine rl_iconst (pc' := 531) dL_law_530 rfl (by decide) ?_
    refine rl_iadd (pc' := 532) dL_law_531 rfl ?_
    refine rl_sldk (k := 1) (pc' := 533) dL_law_532 rfl hL (by omega) ?_
    refine rl_aload_n (i := 0) (pc' := 534) dL_law_533 rfl rfl rfl ?_
    refine rl_iload_n (i := 3) (pc' := 535) dL_law_534 rfl rfl rfl ?_
    refine rl_iconst (pc' := 536) dL_law_535 rfl (by decide) ?_
    refine rl_iadd (pc' := 537) dL_law_536 rfl ?_
    refine rl_sldk (k := 2) (pc' := 538) dL_law_537 rfl hL (by omega) ?_
    refine rl_if_eq (pc' := 541) (tgt := 545) dL_law_538 rfl rfl (fun _ => ?_) (fun h => absurd hz h)
    refine rl_iconst (pc' := 546) dL_law_545 rfl (by decide) ?_
    refine rl_call2_IM (pc' := 549) (ww_freeze_sp ((xs (i + 1)).toInt) 0 μ) e1 dL_law_546 rfl mg_X8_freeze mi_X8_freeze (Or.inl ⟨8, _, TX8, 11, s88_0, rfl⟩) (by decide) ⟨Nat.le_of_ble_eq_true rfl, Nat.le_of_ble_eq_true rfl⟩ wl_23 (Nat.le_of_ble_eq_true rfl) (fun _ => ?_)
    refine rl_aload_n (i := 2) (pc' := 550) dL_law_549 rfl rfl rfl ?_
    refine rl_aload_n (i := 0) (pc' := 551) dL_law_550 rfl rfl rfl ?_
    refine rl_iload_n (i := 3) (pc' := 552) dL_law_551 rfl rfl rfl ?_
    refine rl_iconst (pc' := 553) dL_law_552 rfl (by decide) ?_
    refine rl_iadd (pc' := 554) dL_law_553 rfl ?_
    refine rl_sldk (k := 1) (pc' := 555) dL_law_554 rfl hL (by omega) ?_
    refine rl_aload_n (i := 0) (pc' := 556) dL_law_555 rfl rfl rfl ?_
    refine rl_iload_n (i := 3) (pc' := 557) dL_law_556 rfl rfl rfl ?_
    refine rl_iconst (pc' := 558) dL_law_557 rfl (by decide) ?_
    refine rl_iadd (pc' := 559) dL_law_558 rfl ?_
    refine rl_sldk (k := 2) (pc' := 560) dL_law_559 rfl hL (by omega) ?_
    refine rl_if_eq (pc' := 563) (tgt := 567) dL_law_560 rfl rfl (fun _ => ?_) (fun h => absurd hz h)
    refine rl_iconst (pc' := 568) dL_law_567 rfl (by decide) ?_
    refine rl_call2_IM (pc' := 571) (mod_freeze_sp ((xs (i + 1)).toInt) 0 μ1) e2 dL_law_568 rfl mg_X9_freeze mi_X9_freeze (Or.inl ⟨9, _, TX9, 40, s88_61, rfl⟩) (by decide) ⟨Nat.le_of_ble_eq_true rfl, Nat.le_of_ble_eq_true rfl⟩ wl_24 (Nat.le_of_ble_eq_true rfl) (fun _ => ?_)
    refine rl_icmp_eq (tgt := 1377) dL_law_571 rfl rfl ?_
    exact next μ2 hI2
  · obtain ⟨r, μ1, μ2, e1, e2, hI2⟩ := hE μ hI ((xs (i + 1)).toInt) 1 (i32_C _) (Or.inr rfl)
    refine rl_aload_n (i := 1) (pc' := 528) dL_law_527 rfl rfl rfl ?_
    refine rl_aload_n (i := 0) (pc' := 529) dL_law_528 rfl rfl rfl ?_
    refine rl_iload_n (i := 3) (pc' := 530) dL_law_529 rfl rfl rfl ?_
    refine rl_iconst (pc' := 531) dL_law_530 rfl (by decide) ?_
    refine rl_iadd (pc' := 532) dL_law_531 rfl ?_
    refine rl_sldk (k := 1) (pc' := 533) dL_law_532 rfl hL (by omega) ?_
    refine rl_aload_n (i := 0) (pc' := 534) dL_law_533 rfl rfl rfl ?_
    refine rl_iload_n (i := 3) (pc' := 535) dL_law_534 rfl rfl rfl ?_
    refine rl_iconst (pc' := 536) dL_law_535 rfl (by decide) ?_
    refine rl_iadd (pc' := 537) dL_law_536 rfl ?_
    refine rl_sldk (k := 2) (pc' := 538) dL_law_537 rfl hL (by omega) ?_
    refine rl_if_eq (pc' := 541) (tgt := 545) dL_law_538 rfl rfl (fun h => absurd h hz) (fun _ => ?_)
    refine rl_iconst (pc' := 542) dL_law_541 rfl (by decide) ?_
    refine rl_goto (pc' := 546) dL_law_542 rfl ?_
    refine rl_call2_IM (pc' := 549) (ww_freeze_sp ((xs (i + 1)).toInt) 1 μ) e1 dL_law_546 rfl mg_X8_freeze mi_X8_freeze (Or.inl ⟨8, _, TX8, 11, s88_0, rfl⟩) (by decide) ⟨Nat.le_of_ble_eq_true rfl, Nat.le_of_ble_eq_true rfl⟩ wl_23 (Nat.le_of_ble_eq_true rfl) (fun _ => ?_)
    refine rl_aload_n (i := 2) (pc' := 550) dL_law_549 rfl rfl rfl ?_
    refine rl_aload_n (i := 0) (pc' := 551) dL_law_550 rfl rfl rfl ?_
    refine rl_iload_n (i := 3) (pc' := 552) dL_law_551 rfl rfl rfl ?_
    refine rl_iconst (pc' := 553) dL_law_552 rfl (by decide) ?_
    refine rl_iadd (pc' := 554) dL_law_553 rfl ?_
    refine rl_sldk (k := 1) (pc' := 555) dL_law_554 rfl hL (by omega) ?_
    refine rl_aload_n (i := 0) (pc' := 556) dL_law_555 rfl rfl rfl ?_
    refine rl_iload_n (i := 3) (pc' := 557) dL_law_556 rfl rfl rfl ?_
    refine rl_iconst (pc' := 558) dL_law_557 rfl (by decide) ?_
    refine rl_iadd (pc' := 559) dL_law_558 rfl ?_
    refine rl_sldk (k := 2) (pc' := 560) dL_law_559 rfl hL (by omega) ?_
    refine rl_if_eq (pc' := 563) (tgt := 567) dL_law_560 rfl rfl (fun h => absurd h hz) (fun _ => ?_)
    refine rl_iconst (pc' := 564) dL_law_563 rfl (by decide) ?_
    refine rl_goto (pc' := 568) dL_law_564 rfl ?_
    refine rl_call2_IM (pc' := 571) (mod_freeze_sp ((xs (i + 1)).toInt) 1 μ1) e2 dL_law_568 rfl mg_X9_freeze mi_X9_freeze (Or.inl ⟨9, _, TX9, 40, s88_61, rfl⟩) (by decide) ⟨Nat.le_of_ble_eq_true rfl, Nat.le_of_ble_eq_true rfl⟩ wl_24 (Nat.le_of_ble_eq_true rfl) (fun _ => ?_)
    refine rl_icmp_eq (tgt := 1377) dL_law_571 rfl rfl ?_
    exact next μ2 hI2
theorem law_where {l : Launch} {G : Nv} {b L : Nat} {xs : Nat → Int32} {Inv : Mem → Prop} (hE : E_where Inv) (hL : L ≤ 2560) {i : Nat} (hi : i + 5 ≤ L) {μ : Mem} (hI : Inv μ) (next : ∀ μ', Inv μ' → RLw l G b L xs 1377 [some (vR 150), some (vR 0), some (vR 61), some (vI (i : Int))] [] μ') : RLw l G b L xs 576 [some (vR 150), some (vR 0), some (vR 61), some (vI (i : Int))] [] μ := by
  obtain ⟨r, μ1, μ2, e1, e2, hI2⟩ := hE μ hI ((xs (i + 1)).toInt) ((xs (i + 2)).toInt) (i32_C _) (i32_C _)
  refine rl_aload_n (i := 1) (pc' := 577) dL_law_576 rfl rfl rfl ?_
  refine rl_aload_n (i := 0) (pc' := 578) dL_law_577 rfl rfl rfl ?_
  refine rl_iload_n (i := 3) (pc' := 579) dL_law_578 rfl rfl rfl ?_
  refine rl_iconst (pc' := 580) dL_law_579 rfl (by decide) ?_
  refine rl_iadd (pc' := 581) dL_law_580 rfl ?_
  refine rl_sldk (k := 1) (pc' := 582) dL_law_581 rfl hL (by omega) ?_
  refine rl_aload_n (i := 0) (pc' := 583) dL_law_582 rfl rfl rfl ?_
  refine rl_iload_n (i := 3) (pc' := 584) dL_law_583 rfl rfl rfl ?_
  refine rl_iconst (pc' := 585) dL_law_584 rfl (by decide) ?_
  refine rl_iadd (pc' := 586) dL_law_585 rfl ?_
  refine rl_sldk (k := 2) (pc' := 587) dL_law_586 rfl hL (by omega) ?_
  refine rl_call2_IM (pc' := 590) (ww_where_sp ((xs (i + 1)).toInt) ((xs (i + 2)).toInt) μ) e1 dL_law_587 rfl mg_X8_where mi_X8_where (Or.inl ⟨8, _, TX8, 11, s88_0, rfl⟩) (by decide) ⟨Nat.le_of_ble_eq_true rfl, Nat.le_of_ble_eq_true rfl⟩ wl_25 (Nat.le_of_ble_eq_true rfl) (fun _ => ?_)
  refine rl_aload_n (i := 2) (pc' := 591) dL_law_590 rfl rfl rfl ?_
  refine rl_aload_n (i := 0) (pc' := 592) dL_law_591 rfl rfl rfl ?_
  refine rl_iload_n (i := 3) (pc' := 593) dL_law_592 rfl rfl rfl ?_
  refine rl_iconst (pc' := 594) dL_law_593 rfl (by decide) ?_
  refine rl_iadd (pc' := 595) dL_law_594 rfl ?_
  refine rl_sldk (k := 1) (pc' := 596) dL_law_595 rfl hL (by omega) ?_
  refine rl_aload_n (i := 0) (pc' := 597) dL_law_596 rfl rfl rfl ?_
  refine rl_iload_n (i := 3) (pc' := 598) dL_law_597 rfl rfl rfl ?_
  refine rl_iconst (pc' := 599) dL_law_598 rfl (by decide) ?_
  refine rl_iadd (pc' := 600) dL_law_599 rfl ?_
  refine rl_sldk (k := 2) (pc' := 601) dL_law_600 rfl hL (by omega) ?_
  refine rl_call2_IM (pc' := 604) (mod_where_sp ((xs (i + 1)).toInt) ((xs (i + 2)).toInt) μ1) e2 dL_law_601 rfl mg_X9_where mi_X9_where (Or.inl ⟨9, _, TX9, 40, s88_61, rfl⟩) (by decide) ⟨Nat.le_of_ble_eq_true rfl, Nat.le_of_ble_eq_true rfl⟩ wl_26 (Nat.le_of_ble_eq_true rfl) (fun _ => ?_)
  refine rl_icmp_eq (tgt := 1377) dL_law_604 rfl rfl ?_
  exact next μ2 hI2
theorem law_depth {l : Launch} {G : Nv} {b L : Nat} {xs : Nat → Int32} {Inv : Mem → Prop} (hE : E_depth Inv) (hL : L ≤ 2560) {i : Nat} (hi : i + 5 ≤ L) {μ : Mem} (hI : Inv μ) (next : ∀ μ', Inv μ' → RLw l G b L xs 1377 [some (vR 150), some (vR 0), some (vR 61), some (vI (i : Int))] [] μ') : RLw l G b L xs 609 [some (vR 150), some (vR 0), some (vR 61), some (vI (i : Int))] [] μ := by
  obtain ⟨r, μ1, μ2, e1, e2, hI2⟩ := hE μ hI ((xs (i + 1)).toInt) ((xs (i + 2)).toInt) ((xs (i + 3)).toInt) (i32_C _) (i32_C _) (i32_C _)
  refine rl_aload_n (i := 1) (pc' := 610) dL_law_609 rfl rfl rfl ?_
  refine rl_aload_n (i := 0) (pc' := 611) dL_law_610 rfl rfl rfl ?_
  refine rl_iload_n (i := 3) (pc' := 612) dL_law_611 rfl rfl rfl ?_
  refine rl_iconst (pc' := 613) dL_law_612 rfl (by decide) ?_
  refine rl_iadd (pc' := 614) dL_law_613 rfl ?_
  refine rl_sldk (k := 1) (pc' := 615) dL_law_614 rfl hL (by omega) ?_
  refine rl_aload_n (i := 0) (pc' := 616) dL_law_615 rfl rfl rfl ?_
  refine rl_iload_n (i := 3) (pc' := 617) dL_law_616 rfl rfl rfl ?_
  refine rl_iconst (pc' := 618) dL_law_617 rfl (by decide) ?_
  refine rl_iadd (pc' := 619) dL_law_618 rfl ?_
  refine rl_sldk (k := 2) (pc' := 620) dL_law_619 rfl hL (by omega) ?_
  refine rl_aload_n (i := 0) (pc' := 621) dL_law_620 rfl rfl rfl ?_
  refine rl_iload_n (i := 3) (pc' := 622) dL_law_621 rfl rfl rfl ?_
  refine rl_iconst (pc' := 623) dL_law_622 rfl (by decide) ?_
  refine rl_iadd (pc' := 624) dL_law_623 rfl ?_
  refine rl_sldk (k := 3) (pc' := 625) dL_law_624 rfl hL (by omega) ?_
  refine rl_call3_IM (pc' := 628) (ww_depth_sp ((xs (i + 1)).toInt) ((xs (i + 2)).toInt) ((xs (i + 3)).toInt) μ) e1 dL_law_625 rfl mg_X8_depth mi_X8_depth (Or.inl ⟨8, _, TX8, 11, s88_0, rfl⟩) (by decide) ⟨Nat.le_of_ble_eq_true rfl, Nat.le_of_ble_eq_true rfl⟩ wl_27 (Nat.le_of_ble_eq_true rfl) (fun _ => ?_)
  refine rl_aload_n (i := 2) (pc' := 629) dL_law_628 rfl rfl rfl ?_
  refine rl_aload_n (i := 0) (pc' := 630) dL_law_629 rfl rfl rfl ?_
  refine rl_iload_n (i := 3) (pc' := 631) dL_law_630 rfl rfl rfl ?_
  refine rl_iconst (pc' := 632) dL_law_631 rfl (by decide) ?_
  refine rl_iadd (pc' := 633) dL_law_632 rfl ?_
  refine rl_sldk (k := 1) (pc' := 634) dL_law_633 rfl hL (by omega) ?_
  refine rl_aload_n (i := 0) (pc' := 635) dL_law_634 rfl rfl rfl ?_
  refine rl_iload_n (i := 3) (pc' := 636) dL_law_635 rfl rfl rfl ?_
  refine rl_iconst (pc' := 637) dL_law_636 rfl (by decide) ?_
  refine rl_iadd (pc' := 638) dL_law_637 rfl ?_
  refine rl_sldk (k := 2) (pc' := 639) dL_law_638 rfl hL (by omega) ?_
  refine rl_aload_n (i := 0) (pc' := 640) dL_law_639 rfl rfl rfl ?_
  refine rl_iload_n (i := 3) (pc' := 641) dL_law_640 rfl rfl rfl ?_
  refine rl_iconst (pc' := 642) dL_law_641 rfl (by decide) ?_
  refine rl_iadd (pc' := 643) dL_law_642 rfl ?_
  refine rl_sldk (k := 3) (pc' := 644) dL_law_643 rfl hL (by omega) ?_
  refine rl_call3_IM (pc' := 647) (mod_depth_sp ((xs (i + 1)).toInt) ((xs (i + 2)).toInt) ((xs (i + 3)).toInt) μ1) e2 dL_law_644 rfl mg_X9_depth mi_X9_depth (Or.inl ⟨9, _, TX9, 40, s88_61, rfl⟩) (by decide) ⟨Nat.le_of_ble_eq_true rfl, Nat.le_of_ble_eq_true rfl⟩ wl_28 (Nat.le_of_ble_eq_true rfl) (fun _ => ?_)
  refine rl_icmp_eq (tgt := 1377) dL_law_647 rfl rfl ?_
  exact next μ2 hI2
theorem law_paid {l : Launch} {G : Nv} {b L : Nat} {xs : Nat → Int32} {Inv : Mem → Prop} (hE : E_paid Inv) (hL : L ≤ 2560) {i : Nat} (hi : i + 5 ≤ L) {μ : Mem} (hI : Inv μ) (next : ∀ μ', Inv μ' → RLw l G b L xs 1377 [some (vR 150), some (vR 0), some (vR 61), some (vI (i : Int))] [] μ') : RLw l G b L xs 652 [some (vR 150), some (vR 0), some (vR 61), some (vI (i : Int))] [] μ := by
  obtain ⟨r, μ1, μ2, e1, e2, hI2⟩ := hE μ hI ((xs (i + 1)).toInt) ((xs (i + 2)).toInt) (i32_C _) (i32_C _)
  refine rl_aload_n (i := 1) (pc' := 653) dL_law_652 rfl rfl rfl ?_
  refine rl_aload_n (i := 0) (pc' := 654) dL_law_653 rfl rfl rfl ?_
  refine rl_iload_n (i := 3) (pc' := 655) dL_law_654 rfl rfl rfl ?_
  refine rl_iconst (pc' := 656) dL_law_655 rfl (by decide) ?_
  refine rl_iadd (pc' := 657) dL_law_656 rfl ?_
  refine rl_sldk (k := 1) (pc' := 658) dL_law_657 rfl hL (by omega) ?_
  refine rl_aload_n (i := 0) (pc' := 659) dL_law_658 rfl rfl rfl ?_
  refine rl_iload_n (i := 3) (pc' := 660) dL_law_659 rfl rfl rfl ?_
  refine rl_iconst (pc' := 661) dL_law_660 rfl (by decide) ?_
  refine rl_iadd (pc' := 662) dL_law_661 rfl ?_
  refine rl_sldk (k := 2) (pc' := 663) dL_law_662 rfl hL (by omega) ?_
  refine rl_call2_IM (pc' := 666) (ww_paid_sp ((xs (i + 1)).toInt) ((xs (i + 2)).toInt) μ) e1 dL_law_663 rfl mg_X8_paid mi_X8_paid (Or.inl ⟨8, _, TX8, 11, s88_0, rfl⟩) (by decide) ⟨Nat.le_of_ble_eq_true rfl, Nat.le_of_ble_eq_true rfl⟩ wl_29 (Nat.le_of_ble_eq_true rfl) (fun _ => ?_)
  refine rl_aload_n (i := 2) (pc' := 667) dL_law_666 rfl rfl rfl ?_
  refine rl_aload_n (i := 0) (pc' := 668) dL_law_667 rfl rfl rfl ?_
  refine rl_iload_n (i := 3) (pc' := 669) dL_law_668 rfl rfl rfl ?_
  refine rl_iconst (pc' := 670) dL_law_669 rfl (by decide) ?_
  refine rl_iadd (pc' := 671) dL_law_670 rfl ?_
  refine rl_sldk (k := 1) (pc' := 672) dL_law_671 rfl hL (by omega) ?_
  refine rl_aload_n (i := 0) (pc' := 673) dL_law_672 rfl rfl rfl ?_
  refine rl_iload_n (i := 3) (pc' := 674) dL_law_673 rfl rfl rfl ?_
  refine rl_iconst (pc' := 675) dL_law_674 rfl (by decide) ?_
  refine rl_iadd (pc' := 676) dL_law_675 rfl ?_
  refine rl_sldk (k := 2) (pc' := 677) dL_law_676 rfl hL (by omega) ?_
  refine rl_call2_IM (pc' := 680) (mod_paid_sp ((xs (i + 1)).toInt) ((xs (i + 2)).toInt) μ1) e2 dL_law_677 rfl mg_X9_paid mi_X9_paid (Or.inl ⟨9, _, TX9, 40, s88_61, rfl⟩) (by decide) ⟨Nat.le_of_ble_eq_true rfl, Nat.le_of_ble_eq_true rfl⟩ wl_30 (Nat.le_of_ble_eq_true rfl) (fun _ => ?_)
  refine rl_icmp_eq (tgt := 1377) dL_law_680 rfl rfl ?_
  exact next μ2 hI2
theorem law_waited {l : Launch} {G : Nv} {b L : Nat} {xs : Nat → Int32} {Inv : Mem → Prop} (hE : E_waited Inv) (hL : L ≤ 2560) {i : Nat} (hi : i + 5 ≤ L) {μ : Mem} (hI : Inv μ) (next : ∀ μ', Inv μ' → RLw l G b L xs 1377 [some (vR 150), some (vR 0), some (vR 61), some (vI (i : Int))] [] μ') : RLw l G b L xs 685 [some (vR 150), some (vR 0), some (vR 61), some (vI (i : Int))] [] μ := by
  obtain ⟨r, μ1, μ2, e1, e2, hI2⟩ := hE μ hI ((xs (i + 1)).toInt) ((xs (i + 2)).toInt) (i32_C _) (i32_C _)
  refine rl_aload_n (i := 1) (pc' := 686) dL_law_685 rfl rfl rfl ?_
  refine rl_aload_n (i := 0) (pc' := 687) dL_law_686 rfl rfl rfl ?_
  refine rl_iload_n (i := 3) (pc' := 688) dL_law_687 rfl rfl rfl ?_
  refine rl_iconst (pc' := 689) dL_law_688 rfl (by decide) ?_
  refine rl_iadd (pc' := 690) dL_law_689 rfl ?_
  refine rl_sldk (k := 1) (pc' := 691) dL_law_690 rfl hL (by omega) ?_
  refine rl_aload_n (i := 0) (pc' := 692) dL_law_691 rfl rfl rfl ?_
  refine rl_iload_n (i := 3) (pc' := 693) dL_law_692 rfl rfl rfl ?_
  refine rl_iconst (pc' := 694) dL_law_693 rfl (by decide) ?_
  refine rl_iadd (pc' := 695) dL_law_694 rfl ?_
  refine rl_sldk (k := 2) (pc' := 696) dL_law_695 rfl hL (by omega) ?_
  refine rl_call2_IM (pc' := 699) (ww_waited_sp ((xs (i + 1)).toInt) ((xs (i + 2)).toInt) μ) e1 dL_law_696 rfl mg_X8_waited mi_X8_waited (Or.inl ⟨8, _, TX8, 11, s88_0, rfl⟩) (by decide) ⟨Nat.le_of_ble_eq_true rfl, Nat.le_of_ble_eq_true rfl⟩ wl_31 (Nat.le_of_ble_eq_true rfl) (fun _ => ?_)
  refine rl_aload_n (i := 2) (pc' := 700) dL_law_699 rfl rfl rfl ?_
  refine rl_aload_n (i := 0) (pc' := 701) dL_law_700 rfl rfl rfl ?_
  refine rl_iload_n (i := 3) (pc' := 702) dL_law_701 rfl rfl rfl ?_
  refine rl_iconst (pc' := 703) dL_law_702 rfl (by decide) ?_
  refine rl_iadd (pc' := 704) dL_law_703 rfl ?_
  refine rl_sldk (k := 1) (pc' := 705) dL_law_704 rfl hL (by omega) ?_
  refine rl_aload_n (i := 0) (pc' := 706) dL_law_705 rfl rfl rfl ?_
  refine rl_iload_n (i := 3) (pc' := 707) dL_law_706 rfl rfl rfl ?_
  refine rl_iconst (pc' := 708) dL_law_707 rfl (by decide) ?_
  refine rl_iadd (pc' := 709) dL_law_708 rfl ?_
  refine rl_sldk (k := 2) (pc' := 710) dL_law_709 rfl hL (by omega) ?_
  refine rl_call2_IM (pc' := 713) (mod_waited_sp ((xs (i + 1)).toInt) ((xs (i + 2)).toInt) μ1) e2 dL_law_710 rfl mg_X9_waited mi_X9_waited (Or.inl ⟨9, _, TX9, 40, s88_61, rfl⟩) (by decide) ⟨Nat.le_of_ble_eq_true rfl, Nat.le_of_ble_eq_true rfl⟩ wl_32 (Nat.le_of_ble_eq_true rfl) (fun _ => ?_)
  refine rl_icmp_eq (tgt := 1377) dL_law_713 rfl rfl ?_
  exact next μ2 hI2
theorem law_done {l : Launch} {G : Nv} {b L : Nat} {xs : Nat → Int32} {Inv : Mem → Prop} (hE : E_done Inv) (hL : L ≤ 2560) {i : Nat} (hi : i + 5 ≤ L) {μ : Mem} (hI : Inv μ) (next : ∀ μ', Inv μ' → RLw l G b L xs 1377 [some (vR 150), some (vR 0), some (vR 61), some (vI (i : Int))] [] μ') : RLw l G b L xs 718 [some (vR 150), some (vR 0), some (vR 61), some (vI (i : Int))] [] μ := by
  obtain ⟨r, μ1, μ2, e1, e2, hI2⟩ := hE μ hI ((xs (i + 1)).toInt) (i32_C _)
  refine rl_aload_n (i := 1) (pc' := 719) dL_law_718 rfl rfl rfl ?_
  refine rl_aload_n (i := 0) (pc' := 720) dL_law_719 rfl rfl rfl ?_
  refine rl_iload_n (i := 3) (pc' := 721) dL_law_720 rfl rfl rfl ?_
  refine rl_iconst (pc' := 722) dL_law_721 rfl (by decide) ?_
  refine rl_iadd (pc' := 723) dL_law_722 rfl ?_
  refine rl_sldk (k := 1) (pc' := 724) dL_law_723 rfl hL (by omega) ?_
  refine rl_call1_IM (pc' := 727) (ww_done_sp ((xs (i + 1)).toInt) μ) e1 dL_law_724 rfl mg_X8_done mi_X8_done (Or.inl ⟨8, _, TX8, 11, s88_0, rfl⟩) (by decide) ⟨Nat.le_of_ble_eq_true rfl, Nat.le_of_ble_eq_true rfl⟩ wl_33 (Nat.le_of_ble_eq_true rfl) (fun _ => ?_)
  refine rl_aload_n (i := 2) (pc' := 728) dL_law_727 rfl rfl rfl ?_
  refine rl_aload_n (i := 0) (pc' := 729) dL_law_728 rfl rfl rfl ?_
  refine rl_iload_n (i := 3) (pc' := 730) dL_law_729 rfl rfl rfl ?_
  refine rl_iconst (pc' := 731) dL_law_730 rfl (by decide) ?_
  refine rl_iadd (pc' := 732) dL_law_731 rfl ?_
  refine rl_sldk (k := 1) (pc' := 733) dL_law_732 rfl hL (by omega) ?_
  refine rl_call1_IM (pc' := 736) (mod_done_sp ((xs (i + 1)).toInt) μ1) e2 dL_law_733 rfl mg_X9_done mi_X9_done (Or.inl ⟨9, _, TX9, 40, s88_61, rfl⟩) (by decide) ⟨Nat.le_of_ble_eq_true rfl, Nat.le_of_ble_eq_true rfl⟩ wl_34 (Nat.le_of_ble_eq_true rfl) (fun _ => ?_)
  refine rl_icmp_eq (tgt := 1377) dL_law_736 rfl rfl ?_
  exact next μ2 hI2
theorem law_jam {l : Launch} {G : Nv} {b L : Nat} {xs : Nat → Int32} {Inv : Mem → Prop} (hE : E_jam Inv) (hL : L ≤ 2560) {i : Nat} (hi : i + 5 ≤ L) {μ : Mem} (hI : Inv μ) (next : ∀ μ', Inv μ' → RLw l G b L xs 1377 [some (vR 150), some (vR 0), some (vR 61), some (vI (i : Int))] [] μ') : RLw l G b L xs 741 [some (vR 150), some (vR 0), some (vR 61), some (vI (i : Int))] [] μ := by
  obtain ⟨r, μ1, μ2, e1, e2, hI2⟩ := hE μ hI ((xs (i + 1)).toInt) (i32_C _)
  refine rl_aload_n (i := 1) (pc' := 742) dL_law_741 rfl rfl rfl ?_
  refine rl_aload_n (i := 0) (pc' := 743) dL_law_742 rfl rfl rfl ?_
  refine rl_iload_n (i := 3) (pc' := 744) dL_law_743 rfl rfl rfl ?_
  refine rl_iconst (pc' := 745) dL_law_744 rfl (by decide) ?_
  refine rl_iadd (pc' := 746) dL_law_745 rfl ?_
  refine rl_sldk (k := 1) (pc' := 747) dL_law_746 rfl hL (by omega) ?_
  refine rl_call1_IM (pc' := 750) (ww_jam_sp ((xs (i + 1)).toInt) μ) e1 dL_law_747 rfl mg_X8_jam mi_X8_jam (Or.inl ⟨8, _, TX8, 11, s88_0, rfl⟩) (by decide) ⟨Nat.le_of_ble_eq_true rfl, Nat.le_of_ble_eq_true rfl⟩ wl_35 (Nat.le_of_ble_eq_true rfl) (fun _ => ?_)
  refine rl_aload_n (i := 2) (pc' := 751) dL_law_750 rfl rfl rfl ?_
  refine rl_aload_n (i := 0) (pc' := 752) dL_law_751 rfl rfl rfl ?_
  refine rl_iload_n (i := 3) (pc' := 753) dL_law_752 rfl rfl rfl ?_
  refine rl_iconst (pc' := 754) dL_law_753 rfl (by decide) ?_
  refine rl_iadd (pc' := 755) dL_law_754 rfl ?_
  refine rl_sldk (k := 1) (pc' := 756) dL_law_755 rfl hL (by omega) ?_
  refine rl_call1_IM (pc' := 759) (mod_jam_sp ((xs (i + 1)).toInt) μ1) e2 dL_law_756 rfl mg_X9_jam mi_X9_jam (Or.inl ⟨9, _, TX9, 40, s88_61, rfl⟩) (by decide) ⟨Nat.le_of_ble_eq_true rfl, Nat.le_of_ble_eq_true rfl⟩ wl_36 (Nat.le_of_ble_eq_true rfl) (fun _ => ?_)
  refine rl_icmp_eq (tgt := 1377) dL_law_759 rfl rfl ?_
  exact next μ2 hI2
theorem law_deepest {l : Launch} {G : Nv} {b L : Nat} {xs : Nat → Int32} {Inv : Mem → Prop} (hE : E_deepest Inv) (hL : L ≤ 2560) {i : Nat} (hi : i + 5 ≤ L) {μ : Mem} (hI : Inv μ) (next : ∀ μ', Inv μ' → RLw l G b L xs 1377 [some (vR 150), some (vR 0), some (vR 61), some (vI (i : Int))] [] μ') : RLw l G b L xs 764 [some (vR 150), some (vR 0), some (vR 61), some (vI (i : Int))] [] μ := by
  obtain ⟨r, μ1, μ2, e1, e2, hI2⟩ := hE μ hI ((xs (i + 1)).toInt) ((xs (i + 2)).toInt) (i32_C _) (i32_C _)
  refine rl_aload_n (i := 1) (pc' := 765) dL_law_764 rfl rfl rfl ?_
  refine rl_aload_n (i := 0) (pc' := 766) dL_law_765 rfl rfl rfl ?_
  refine rl_iload_n (i := 3) (pc' := 767) dL_law_766 rfl rfl rfl ?_
  refine rl_iconst (pc' := 768) dL_law_767 rfl (by decide) ?_
  refine rl_iadd (pc' := 769) dL_law_768 rfl ?_
  refine rl_sldk (k := 1) (pc' := 770) dL_law_769 rfl hL (by omega) ?_
  refine rl_aload_n (i := 0) (pc' := 771) dL_law_770 rfl rfl rfl ?_
  refine rl_iload_n (i := 3) (pc' := 772) dL_law_771 rfl rfl rfl ?_
  refine rl_iconst (pc' := 773) dL_law_772 rfl (by decide) ?_
  refine rl_iadd (pc' := 774) dL_law_773 rfl ?_
  refine rl_sldk (k := 2) (pc' := 775) dL_law_774 rfl hL (by omega) ?_
  refine rl_call2_IM (pc' := 778) (ww_deepest_sp ((xs (i + 1)).toInt) ((xs (i + 2)).toInt) μ) e1 dL_law_775 rfl mg_X8_deepest mi_X8_deepest (Or.inl ⟨8, _, TX8, 11, s88_0, rfl⟩) (by decide) ⟨Nat.le_of_ble_eq_true rfl, Nat.le_of_ble_eq_true rfl⟩ wl_37 (Nat.le_of_ble_eq_true rfl) (fun _ => ?_)
  refine rl_aload_n (i := 2) (pc' := 779) dL_law_778 rfl rfl rfl ?_
  refine rl_aload_n (i := 0) (pc' := 780) dL_law_779 rfl rfl rfl ?_
  refine rl_iload_n (i := 3) (pc' := 781) dL_law_780 rfl rfl rfl ?_
  refine rl_iconst (pc' := 782) dL_law_781 rfl (by decide) ?_
  refine rl_iadd (pc' := 783) dL_law_782 rfl ?_
  refine rl_sldk (k := 1) (pc' := 784) dL_law_783 rfl hL (by omega) ?_
  refine rl_aload_n (i := 0) (pc' := 785) dL_law_784 rfl rfl rfl ?_
  refine rl_iload_n (i := 3) (pc' := 786) dL_law_785 rfl rfl rfl ?_
  refine rl_iconst (pc' := 787) dL_law_786 rfl (by decide) ?_
  refine rl_iadd (pc' := 788) dL_law_787 rfl ?_
  refine rl_sldk (k := 2) (pc' := 789) dL_law_788 rfl hL (by omega) ?_
  refine rl_call2_IM (pc' := 792) (mod_deepest_sp ((xs (i + 1)).toInt) ((xs (i + 2)).toInt) μ1) e2 dL_law_789 rfl mg_X9_deepest mi_X9_deepest (Or.inl ⟨9, _, TX9, 40, s88_61, rfl⟩) (by decide) ⟨Nat.le_of_ble_eq_true rfl, Nat.le_of_ble_eq_true rfl⟩ wl_38 (Nat.le_of_ble_eq_true rfl) (fun _ => ?_)
  refine rl_icmp_eq (tgt := 1377) dL_law_792 rfl rfl ?_
  exact next μ2 hI2
theorem law_go {l : Launch} {G : Nv} {b L : Nat} {xs : Nat → Int32} {Inv : Mem → Prop} (hE : E_go Inv) (hL : L ≤ 2560) {i : Nat} (hi : i + 5 ≤ L) {μ : Mem} (hI : Inv μ) (next : ∀ μ', Inv μ' → RLw l G b L xs 1377 [some (vR 150), some (vR 0), some (vR 61), some (vI (i : Int))] [] μ') : RLw l G b L xs 797 [some (vR 150), some (vR 0), some (vR 61), some (vI (i : Int))] [] μ := by
  obtain ⟨r, μ1, μ2, e1, e2, hI2⟩ := hE μ hI ((xs (i + 1)).toInt) (i32_C _)
  refine rl_aload_n (i := 1) (pc' := 798) dL_law_797 rfl rfl rfl ?_
  refine rl_aload_n (i := 0) (pc' := 799) dL_law_798 rfl rfl rfl ?_
  refine rl_iload_n (i := 3) (pc' := 800) dL_law_799 rfl rfl rfl ?_
  refine rl_iconst (pc' := 801) dL_law_800 rfl (by decide) ?_
  refine rl_iadd (pc' := 802) dL_law_801 rfl ?_
  refine rl_sldk (k := 1) (pc' := 803) dL_law_802 rfl hL (by omega) ?_
  refine rl_call1_IM (pc' := 806) (ww_go_sp ((xs (i + 1)).toInt) μ) e1 dL_law_803 rfl mg_X8_go mi_X8_go (Or.inl ⟨8, _, TX8, 11, s88_0, rfl⟩) (by decide) ⟨Nat.le_of_ble_eq_true rfl, Nat.le_of_ble_eq_true rfl⟩ wl_39 (Nat.le_of_ble_eq_true rfl) (fun _ => ?_)
  refine rl_aload_n (i := 2) (pc' := 807) dL_law_806 rfl rfl rfl ?_
  refine rl_aload_n (i := 0) (pc' := 808) dL_law_807 rfl rfl rfl ?_
  refine rl_iload_n (i := 3) (pc' := 809) dL_law_808 rfl rfl rfl ?_
  refine rl_iconst (pc' := 810) dL_law_809 rfl (by decide) ?_
  refine rl_iadd (pc' := 811) dL_law_810 rfl ?_
  refine rl_sldk (k := 1) (pc' := 812) dL_law_811 rfl hL (by omega) ?_
  refine rl_call1_IM (pc' := 815) (mod_go_sp ((xs (i + 1)).toInt) μ1) e2 dL_law_812 rfl mg_X9_go mi_X9_go (Or.inl ⟨9, _, TX9, 40, s88_61, rfl⟩) (by decide) ⟨Nat.le_of_ble_eq_true rfl, Nat.le_of_ble_eq_true rfl⟩ wl_40 (Nat.le_of_ble_eq_true rfl) (fun _ => ?_)
  refine rl_icmp_eq (tgt := 1377) dL_law_815 rfl rfl ?_
  exact next μ2 hI2
theorem law_order {l : Launch} {G : Nv} {b L : Nat} {xs : Nat → Int32} {Inv : Mem → Prop} (hE : E_order Inv) (hL : L ≤ 2560) {i : Nat} (hi : i + 5 ≤ L) {μ : Mem} (hI : Inv μ) (next : ∀ μ', Inv μ' → RLw l G b L xs 1377 [some (vR 150), some (vR 0), some (vR 61), some (vI (i : Int))] [] μ') : RLw l G b L xs 820 [some (vR 150), some (vR 0), some (vR 61), some (vI (i : Int))] [] μ := by
  obtain ⟨r, μ1, μ2, e1, e2, hI2⟩ := hE μ hI ((xs (i + 1)).toInt) (i32_C _)
  refine rl_aload_n (i := 1) (pc' := 821) dL_law_820 rfl rfl rfl ?_
  refine rl_aload_n (i := 0) (pc' := 822) dL_law_821 rfl rfl rfl ?_
  refine rl_iload_n (i := 3) (pc' := 823) dL_law_822 rfl rfl rfl ?_
  refine rl_iconst (pc' := 824) dL_law_823 rfl (by decide) ?_
  refine rl_iadd (pc' := 825) dL_law_824 rfl ?_
  refine rl_sldk (k := 1) (pc' := 826) dL_law_825 rfl hL (by omega) ?_
  refine rl_call1_IM (pc' := 829) (ww_order_sp ((xs (i + 1)).toInt) μ) e1 dL_law_826 rfl mg_X8_order mi_X8_order (Or.inl ⟨8, _, TX8, 11, s88_0, rfl⟩) (by decide) ⟨Nat.le_of_ble_eq_true rfl, Nat.le_of_ble_eq_true rfl⟩ wl_41 (Nat.le_of_ble_eq_true rfl) (fun _ => ?_)
  refine rl_aload_n (i := 2) (pc' := 830) dL_law_829 rfl rfl rfl ?_
  refine rl_aload_n (i := 0) (pc' := 831) dL_law_830 rfl rfl rfl ?_
  refine rl_iload_n (i := 3) (pc' := 832) dL_law_831 rfl rfl rfl ?_
  refine rl_iconst (pc' := 833) dL_law_832 rfl (by decide) ?_
  refine rl_iadd (pc' := 834) dL_law_833 rfl ?_
  refine rl_sldk (k := 1) (pc' := 835) dL_law_834 rfl hL (by omega) ?_
  refine rl_call1_IM (pc' := 838) (mod_order_sp ((xs (i + 1)).toInt) μ1) e2 dL_law_835 rfl mg_X9_order mi_X9_order (Or.inl ⟨9, _, TX9, 40, s88_61, rfl⟩) (by decide) ⟨Nat.le_of_ble_eq_true rfl, Nat.le_of_ble_eq_true rfl⟩ wl_42 (Nat.le_of_ble_eq_true rfl) (fun _ => ?_)
  refine rl_icmp_eq (tgt := 1377) dL_law_838 rfl rfl ?_
  exact next μ2 hI2
theorem law_mend {l : Launch} {G : Nv} {b L : Nat} {xs : Nat → Int32} {Inv : Mem → Prop} (hE : E_mend Inv) (hL : L ≤ 2560) {i : Nat} (hi : i + 5 ≤ L) {μ : Mem} (hI : Inv μ) (next : ∀ μ', Inv μ' → RLw l G b L xs 1377 [some (vR 150), some (vR 0), some (vR 61), some (vI (i : Int))] [] μ') : RLw l G b L xs 843 [some (vR 150), some (vR 0), some (vR 61), some (vI (i : Int))] [] μ := by
  obtain ⟨r, μ1, μ2, e1, e2, hI2⟩ := hE μ hI ((xs (i + 1)).toInt) (i32_C _)
  refine rl_aload_n (i := 1) (pc' := 844) dL_law_843 rfl rfl rfl ?_
  refine rl_aload_n (i := 0) (pc' := 845) dL_law_844 rfl rfl rfl ?_
  refine rl_iload_n (i := 3) (pc' := 846) dL_law_845 rfl rfl rfl ?_
  refine rl_iconst (pc' := 847) dL_law_846 rfl (by decide) ?_
  refine rl_iadd (pc' := 848) dL_law_847 rfl ?_
  refine rl_sldk (k := 1) (pc' := 849) dL_law_848 rfl hL (by omega) ?_
  refine rl_call1_IM (pc' := 852) (ww_mend_sp ((xs (i + 1)).toInt) μ) e1 dL_law_849 rfl mg_X8_mend mi_X8_mend (Or.inl ⟨8, _, TX8, 11, s88_0, rfl⟩) (by decide) ⟨Nat.le_of_ble_eq_true rfl, Nat.le_of_ble_eq_true rfl⟩ wl_43 (Nat.le_of_ble_eq_true rfl) (fun _ => ?_)
  refine rl_aload_n (i := 2) (pc' := 853) dL_law_852 rfl rfl rfl ?_
  refine rl_aload_n (i := 0) (pc' := 854) dL_law_853 rfl rfl rfl ?_
  refine rl_iload_n (i := 3) (pc' := 855) dL_law_854 rfl rfl rfl ?_
  refine rl_iconst (pc' := 856) dL_law_855 rfl (by decide) ?_
  refine rl_iadd (pc' := 857) dL_law_856 rfl ?_
  refine rl_sldk (k := 1) (pc' := 858) dL_law_857 rfl hL (by omega) ?_
  refine rl_call1_IM (pc' := 861) (mod_mend_sp ((xs (i + 1)).toInt) μ1) e2 dL_law_858 rfl mg_X9_mend mi_X9_mend (Or.inl ⟨9, _, TX9, 40, s88_61, rfl⟩) (by decide) ⟨Nat.le_of_ble_eq_true rfl, Nat.le_of_ble_eq_true rfl⟩ wl_44 (Nat.le_of_ble_eq_true rfl) (fun _ => ?_)
  refine rl_icmp_eq (tgt := 1377) dL_law_861 rfl rfl ?_
  exact next μ2 hI2
theorem law_way {l : Launch} {G : Nv} {b L : Nat} {xs : Nat → Int32} {Inv : Mem → Prop} (hE : E_way Inv) (hL : L ≤ 2560) {i : Nat} (hi : i + 5 ≤ L) {μ : Mem} (hI : Inv μ) (next : ∀ μ', Inv μ' → RLw l G b L xs 1377 [some (vR 150), some (vR 0), some (vR 61), some (vI (i : Int))] [] μ') : RLw l G b L xs 866 [some (vR 150), some (vR 0), some (vR 61), some (vI (i : Int))] [] μ := by
  obtain ⟨r, μ1, μ2, e1, e2, hI2⟩ := hE μ hI ((xs (i + 1)).toInt) ((xs (i + 2)).toInt) ((xs (i + 3)).toInt) (i32_C _) (i32_C _) (i32_C _)
  refine rl_aload_n (i := 1) (pc' := 867) dL_law_866 rfl rfl rfl ?_
  refine rl_aload_n (i := 0) (pc' := 868) dL_law_867 rfl rfl rfl ?_
  refine rl_iload_n (i := 3) (pc' := 869) dL_law_868 rfl rfl rfl ?_
  refine rl_iconst (pc' := 870) dL_law_869 rfl (by decide) ?_
  refine rl_iadd (pc' := 871) dL_law_870 rfl ?_
  refine rl_sldk (k := 1) (pc' := 872) dL_law_871 rfl hL (by omega) ?_
  refine rl_aload_n (i := 0) (pc' := 873) dL_law_872 rfl rfl rfl ?_
  refine rl_iload_n (i := 3) (pc' := 874) dL_law_873 rfl rfl rfl ?_
  refine rl_iconst (pc' := 875) dL_law_874 rfl (by decide) ?_
  refine rl_iadd (pc' := 876) dL_law_875 rfl ?_
  refine rl_sldk (k := 2) (pc' := 877) dL_law_876 rfl hL (by omega) ?_
  refine rl_aload_n (i := 0) (pc' := 878) dL_law_877 rfl rfl rfl ?_
  refine rl_iload_n (i := 3) (pc' := 879) dL_law_878 rfl rfl rfl ?_
  refine rl_iconst (pc' := 880) dL_law_879 rfl (by decide) ?_
  refine rl_iadd (pc' := 881) dL_law_880 rfl ?_
  refine rl_sldk (k := 3) (pc' := 882) dL_law_881 rfl hL (by omega) ?_
  refine rl_call3_IM (pc' := 885) (ww_way_sp ((xs (i + 1)).toInt) ((xs (i + 2)).toInt) ((xs (i + 3)).toInt) μ) e1 dL_law_882 rfl mg_X8_way mi_X8_way (Or.inl ⟨8, _, TX8, 11, s88_0, rfl⟩) (by decide) ⟨Nat.le_of_ble_eq_true rfl, Nat.le_of_ble_eq_true rfl⟩ wl_45 (Nat.le_of_ble_eq_true rfl) (fun _ => ?_)
  refine rl_aload_n (i := 2) (pc' := 886) dL_law_885 rfl rfl rfl ?_
  refine rl_aload_n (i := 0) (pc' := 887) dL_law_886 rfl rfl rfl ?_
  refine rl_iload_n (i := 3) (pc' := 888) dL_law_887 rfl rfl rfl ?_
  refine rl_iconst (pc' := 889) dL_law_888 rfl (by decide) ?_
  refine rl_iadd (pc' := 890) dL_law_889 rfl ?_
  refine rl_sldk (k := 1) (pc' := 891) dL_law_890 rfl hL (by omega) ?_
  refine rl_aload_n (i := 0) (pc' := 892) dL_law_891 rfl rfl rfl ?_
  refine rl_iload_n (i := 3) (pc' := 893) dL_law_892 rfl rfl rfl ?_
  refine rl_iconst (pc' := 894) dL_law_893 rfl (by decide) ?_
  refine rl_iadd (pc' := 895) dL_law_894 rfl ?_
  refine rl_sldk (k := 2) (pc' := 896) dL_law_895 rfl hL (by omega) ?_
  refine rl_aload_n (i := 0) (pc' := 897) dL_law_896 rfl rfl rfl ?_
  refine rl_iload_n (i := 3) (pc' := 898) dL_law_897 rfl rfl rfl ?_
  refine rl_iconst (pc' := 899) dL_law_898 rfl (by decide) ?_
  refine rl_iadd (pc' := 900) dL_law_899 rfl ?_
  refine rl_sldk (k := 3) (pc' := 901) dL_law_900 rfl hL (by omega) ?_
  refine rl_call3_IM (pc' := 904) (mod_way_sp ((xs (i + 1)).toInt) ((xs (i + 2)).toInt) ((xs (i + 3)).toInt) μ1) e2 dL_law_901 rfl mg_X9_way mi_X9_way (Or.inl ⟨9, _, TX9, 40, s88_61, rfl⟩) (by decide) ⟨Nat.le_of_ble_eq_true rfl, Nat.le_of_ble_eq_true rfl⟩ wl_46 (Nat.le_of_ble_eq_true rfl) (fun _ => ?_)
  refine rl_icmp_eq (tgt := 1377) dL_law_904 rfl rfl ?_
  exact next μ2 hI2
theorem law_can {l : Launch} {G : Nv} {b L : Nat} {xs : Nat → Int32} {Inv : Mem → Prop} (hE : E_can Inv) (hL : L ≤ 2560) {i : Nat} (hi : i + 5 ≤ L) {μ : Mem} (hI : Inv μ) (next : ∀ μ', Inv μ' → RLw l G b L xs 1377 [some (vR 150), some (vR 0), some (vR 61), some (vI (i : Int))] [] μ') : RLw l G b L xs 909 [some (vR 150), some (vR 0), some (vR 61), some (vI (i : Int))] [] μ := by
  obtain ⟨r, μ1, μ2, e1, e2, hI2⟩ := hE μ hI ((xs (i + 1)).toInt) (i32_C _)
  refine rl_aload_n (i := 1) (pc' := 910) dL_law_909 rfl rfl rfl ?_
  refine rl_aload_n (i := 0) (pc' := 911) dL_law_910 rfl rfl rfl ?_
  refine rl_iload_n (i := 3) (pc' := 912) dL_law_911 rfl rfl rfl ?_
  refine rl_iconst (pc' := 913) dL_law_912 rfl (by decide) ?_
  refine rl_iadd (pc' := 914) dL_law_913 rfl ?_
  refine rl_sldk (k := 1) (pc' := 915) dL_law_914 rfl hL (by omega) ?_
  refine rl_call1_IM (pc' := 918) (ww_can_sp ((xs (i + 1)).toInt) μ) e1 dL_law_915 rfl mg_X8_can mi_X8_can (Or.inl ⟨8, _, TX8, 11, s88_0, rfl⟩) (by decide) ⟨Nat.le_of_ble_eq_true rfl, Nat.le_of_ble_eq_true rfl⟩ wl_47 (Nat.le_of_ble_eq_true rfl) (fun _ => ?_)
  refine rl_aload_n (i := 2) (pc' := 919) dL_law_918 rfl rfl rfl ?_
  refine rl_aload_n (i := 0) (pc' := 920) dL_law_919 rfl rfl rfl ?_
  refine rl_iload_n (i := 3) (pc' := 921) dL_law_920 rfl rfl rfl ?_
  refine rl_iconst (pc' := 922) dL_law_921 rfl (by decide) ?_
  refine rl_iadd (pc' := 923) dL_law_922 rfl ?_
  refine rl_sldk (k := 1) (pc' := 924) dL_law_923 rfl hL (by omega) ?_
  refine rl_call1_IM (pc' := 927) (mod_can_sp ((xs (i + 1)).toInt) μ1) e2 dL_law_924 rfl mg_X9_can mi_X9_can (Or.inl ⟨9, _, TX9, 40, s88_61, rfl⟩) (by decide) ⟨Nat.le_of_ble_eq_true rfl, Nat.le_of_ble_eq_true rfl⟩ wl_48 (Nat.le_of_ble_eq_true rfl) (fun _ => ?_)
  refine rl_icmp_eq (tgt := 1377) dL_law_927 rfl rfl ?_
  exact next μ2 hI2
theorem law_cost {l : Launch} {G : Nv} {b L : Nat} {xs : Nat → Int32} {Inv : Mem → Prop} (hE : E_cost Inv) (hL : L ≤ 2560) {i : Nat} (hi : i + 5 ≤ L) {μ : Mem} (hI : Inv μ) (next : ∀ μ', Inv μ' → RLw l G b L xs 1377 [some (vR 150), some (vR 0), some (vR 61), some (vI (i : Int))] [] μ') : RLw l G b L xs 932 [some (vR 150), some (vR 0), some (vR 61), some (vI (i : Int))] [] μ := by
  obtain ⟨r, e1, e2, hI2⟩ := hE μ hI ((xs (i + 1)).toInt) (i32_C _)
  refine rl_aload_n (i := 1) (pc' := 933) dL_law_932 rfl rfl rfl ?_
  refine rl_aload_n (i := 0) (pc' := 934) dL_law_933 rfl rfl rfl ?_
  refine rl_iload_n (i := 3) (pc' := 935) dL_law_934 rfl rfl rfl ?_
  refine rl_iconst (pc' := 936) dL_law_935 rfl (by decide) ?_
  refine rl_iadd (pc' := 937) dL_law_936 rfl ?_
  refine rl_sldk (k := 1) (pc' := 938) dL_law_937 rfl hL (by omega) ?_
  refine rl_call1_I (pc' := 941) (ww_cost_sp ((xs (i + 1)).toInt) μ) e1 dL_law_938 rfl mg_X8_cost mi_X8_cost (Or.inl ⟨8, _, TX8, 11, s88_0, rfl⟩) (by decide) ⟨Nat.le_of_ble_eq_true rfl, Nat.le_of_ble_eq_true rfl⟩ wl_49 (Nat.le_of_ble_eq_true rfl) (fun _ => ?_)
  refine rl_aload_n (i := 2) (pc' := 942) dL_law_941 rfl rfl rfl ?_
  refine rl_aload_n (i := 0) (pc' := 943) dL_law_942 rfl rfl rfl ?_
  refine rl_iload_n (i := 3) (pc' := 944) dL_law_943 rfl rfl rfl ?_
  refine rl_iconst (pc' := 945) dL_law_944 rfl (by decide) ?_
  refine rl_iadd (pc' := 946) dL_law_945 rfl ?_
  refine rl_sldk (k := 1) (pc' := 947) dL_law_946 rfl hL (by omega) ?_
  refine rl_call1_I (pc' := 950) (mod_cost_sp ((xs (i + 1)).toInt) μ) e2 dL_law_947 rfl mg_X9_cost mi_X9_cost (Or.inl ⟨9, _, TX9, 40, s88_61, rfl⟩) (by decide) ⟨Nat.le_of_ble_eq_true rfl, Nat.le_of_ble_eq_true rfl⟩ wl_50 (Nat.le_of_ble_eq_true rfl) (fun _ => ?_)
  refine rl_icmp_eq (tgt := 1377) dL_law_950 rfl rfl ?_
  exact next μ hI2
theorem law_price {l : Launch} {G : Nv} {b L : Nat} {xs : Nat → Int32} {Inv : Mem → Prop} (hE : E_price Inv) (hL : L ≤ 2560) {i : Nat} (hi : i + 5 ≤ L) {μ : Mem} (hI : Inv μ) (next : ∀ μ', Inv μ' → RLw l G b L xs 1377 [some (vR 150), some (vR 0), some (vR 61), some (vI (i : Int))] [] μ') : RLw l G b L xs 955 [some (vR 150), some (vR 0), some (vR 61), some (vI (i : Int))] [] μ := by
  obtain ⟨r, μ1, μ2, e1, e2, hI2⟩ := hE μ hI ((xs (i + 1)).toInt) ((xs (i + 2)).toInt) (i32_C _) (i32_C _)
  refine rl_aload_n (i := 1) (pc' := 956) dL_law_955 rfl rfl rfl ?_
  refine rl_aload_n (i := 0) (pc' := 957) dL_law_956 rfl rfl rfl ?_
  refine rl_iload_n (i := 3) (pc' := 958) dL_law_957 rfl rfl rfl ?_
  refine rl_iconst (pc' := 959) dL_law_958 rfl (by decide) ?_
  refine rl_iadd (pc' := 960) dL_law_959 rfl ?_
  refine rl_sldk (k := 1) (pc' := 961) dL_law_960 rfl hL (by omega) ?_
  refine rl_aload_n (i := 0) (pc' := 962) dL_law_961 rfl rfl rfl ?_
  refine rl_iload_n (i := 3) (pc' := 963) dL_law_962 rfl rfl rfl ?_
  refine rl_iconst (pc' := 964) dL_law_963 rfl (by decide) ?_
  refine rl_iadd (pc' := 965) dL_law_964 rfl ?_
  refine rl_sldk (k := 2) (pc' := 966) dL_law_965 rfl hL (by omega) ?_
  refine rl_call2_IM (pc' := 969) (ww_price_sp ((xs (i + 1)).toInt) ((xs (i + 2)).toInt) μ) e1 dL_law_966 rfl mg_X8_price mi_X8_price (Or.inl ⟨8, _, TX8, 11, s88_0, rfl⟩) (by decide) ⟨Nat.le_of_ble_eq_true rfl, Nat.le_of_ble_eq_true rfl⟩ wl_51 (Nat.le_of_ble_eq_true rfl) (fun _ => ?_)
  refine rl_aload_n (i := 2) (pc' := 970) dL_law_969 rfl rfl rfl ?_
  refine rl_aload_n (i := 0) (pc' := 971) dL_law_970 rfl rfl rfl ?_
  refine rl_iload_n (i := 3) (pc' := 972) dL_law_971 rfl rfl rfl ?_
  refine rl_iconst (pc' := 973) dL_law_972 rfl (by decide) ?_
  refine rl_iadd (pc' := 974) dL_law_973 rfl ?_
  refine rl_sldk (k := 1) (pc' := 975) dL_law_974 rfl hL (by omega) ?_
  refine rl_aload_n (i := 0) (pc' := 976) dL_law_975 rfl rfl rfl ?_
  refine rl_iload_n (i := 3) (pc' := 977) dL_law_976 rfl rfl rfl ?_
  refine rl_iconst (pc' := 978) dL_law_977 rfl (by decide) ?_
  refine rl_iadd (pc' := 979) dL_law_978 rfl ?_
  refine rl_sldk (k := 2) (pc' := 980) dL_law_979 rfl hL (by omega) ?_
  refine rl_call2_IM (pc' := 983) (mod_price_sp ((xs (i + 1)).toInt) ((xs (i + 2)).toInt) μ1) e2 dL_law_980 rfl mg_X9_price mi_X9_price (Or.inl ⟨9, _, TX9, 40, s88_61, rfl⟩) (by decide) ⟨Nat.le_of_ble_eq_true rfl, Nat.le_of_ble_eq_true rfl⟩ wl_52 (Nat.le_of_ble_eq_true rfl) (fun _ => ?_)
  refine rl_icmp_eq (tgt := 1377) dL_law_983 rfl rfl ?_
  exact next μ2 hI2
theorem law_firm {l : Launch} {G : Nv} {b L : Nat} {xs : Nat → Int32} {Inv : Mem → Prop} (hE : E_firm Inv) (hL : L ≤ 2560) {i : Nat} (hi : i + 5 ≤ L) {μ : Mem} (hI : Inv μ) (next : ∀ μ', Inv μ' → RLw l G b L xs 1377 [some (vR 150), some (vR 0), some (vR 61), some (vI (i : Int))] [] μ') : RLw l G b L xs 988 [some (vR 150), some (vR 0), some (vR 61), some (vI (i : Int))] [] μ := by
  obtain ⟨r, e1, e2, hI2⟩ := hE μ hI ((xs (i + 1)).toInt) ((xs (i + 2)).toInt) ((xs (i + 3)).toInt) (i32_C _) (i32_C _) (i32_C _)
  refine rl_aload_n (i := 1) (pc' := 989) dL_law_988 rfl rfl rfl ?_
  refine rl_aload_n (i := 0) (pc' := 990) dL_law_989 rfl rfl rfl ?_
  refine rl_iload_n (i := 3) (pc' := 991) dL_law_990 rfl rfl rfl ?_
  refine rl_iconst (pc' := 992) dL_law_991 rfl (by decide) ?_
  refine rl_iadd (pc' := 993) dL_law_992 rfl ?_
  refine rl_sldk (k := 1) (pc' := 994) dL_law_993 rfl hL (by omega) ?_
  refine rl_aload_n (i := 0) (pc' := 995) dL_law_994 rfl rfl rfl ?_
  refine rl_iload_n (i := 3) (pc' := 996) dL_law_995 rfl rfl rfl ?_
  refine rl_iconst (pc' := 997) dL_law_996 rfl (by decide) ?_
  refine rl_iadd (pc' := 998) dL_law_997 rfl ?_
  refine rl_sldk (k := 2) (pc' := 999) dL_law_998 rfl hL (by omega) ?_
  refine rl_aload_n (i := 0) (pc' := 1000) dL_law_999 rfl rfl rfl ?_
  refine rl_iload_n (i := 3) (pc' := 1001) dL_law_1000 rfl rfl rfl ?_
  refine rl_iconst (pc' := 1002) dL_law_1001 rfl (by decide) ?_
  refine rl_iadd (pc' := 1003) dL_law_1002 rfl ?_
  refine rl_sldk (k := 3) (pc' := 1004) dL_law_1003 rfl hL (by omega) ?_
  refine rl_call3_I (pc' := 1007) (ww_firm_sp ((xs (i + 1)).toInt) ((xs (i + 2)).toInt) ((xs (i + 3)).toInt) μ) e1 dL_law_1004 rfl mg_X8_firm mi_X8_firm (Or.inl ⟨8, _, TX8, 11, s88_0, rfl⟩) (by decide) ⟨Nat.le_of_ble_eq_true rfl, Nat.le_of_ble_eq_true rfl⟩ wl_53 (Nat.le_of_ble_eq_true rfl) (fun _ => ?_)
  refine rl_aload_n (i := 2) (pc' := 1008) dL_law_1007 rfl rfl rfl ?_
  refine rl_aload_n (i := 0) (pc' := 1009) dL_law_1008 rfl rfl rfl ?_
  refine rl_iload_n (i := 3) (pc' := 1010) dL_law_1009 rfl rfl rfl ?_
  refine rl_iconst (pc' := 1011) dL_law_1010 rfl (by decide) ?_
  refine rl_iadd (pc' := 1012) dL_law_1011 rfl ?_
  refine rl_sldk (k := 1) (pc' := 1013) dL_law_1012 rfl hL (by omega) ?_
  refine rl_aload_n (i := 0) (pc' := 1014) dL_law_1013 rfl rfl rfl ?_
  refine rl_iload_n (i := 3) (pc' := 1015) dL_law_1014 rfl rfl rfl ?_
  refine rl_iconst (pc' := 1016) dL_law_1015 rfl (by decide) ?_
  refine rl_iadd (pc' := 1017) dL_law_1016 rfl ?_
  refine rl_sldk (k := 2) (pc' := 1018) dL_law_1017 rfl hL (by omega) ?_
  refine rl_aload_n (i := 0) (pc' := 1019) dL_law_1018 rfl rfl rfl ?_
  refine rl_iload_n (i := 3) (pc' := 1020) dL_law_1019 rfl rfl rfl ?_
  refine rl_iconst (pc' := 1021) dL_law_1020 rfl (by decide) ?_
  refine rl_iadd (pc' := 1022) dL_law_1021 rfl ?_
  refine rl_sldk (k := 3) (pc' := 1023) dL_law_1022 rfl hL (by omega) ?_
  refine rl_call3_I (pc' := 1026) (mod_firm_sp ((xs (i + 1)).toInt) ((xs (i + 2)).toInt) ((xs (i + 3)).toInt) μ) e2 dL_law_1023 rfl mg_X9_firm mi_X9_firm (Or.inl ⟨9, _, TX9, 40, s88_61, rfl⟩) (by decide) ⟨Nat.le_of_ble_eq_true rfl, Nat.le_of_ble_eq_true rfl⟩ wl_54 (Nat.le_of_ble_eq_true rfl) (fun _ => ?_)
  refine rl_icmp_eq (tgt := 1377) dL_law_1026 rfl rfl ?_
  exact next μ hI2
theorem law_shares {l : Launch} {G : Nv} {b L : Nat} {xs : Nat → Int32} {Inv : Mem → Prop} (hE : E_shares Inv) (hL : L ≤ 2560) {i : Nat} (hi : i + 5 ≤ L) {μ : Mem} (hI : Inv μ) (next : ∀ μ', Inv μ' → RLw l G b L xs 1377 [some (vR 150), some (vR 0), some (vR 61), some (vI (i : Int))] [] μ') : RLw l G b L xs 1031 [some (vR 150), some (vR 0), some (vR 61), some (vI (i : Int))] [] μ := by
  obtain ⟨r, e1, e2, hI2⟩ := hE μ hI ((xs (i + 1)).toInt) (i32_C _)
  refine rl_aload_n (i := 1) (pc' := 1032) dL_law_1031 rfl rfl rfl ?_
  refine rl_aload_n (i := 0) (pc' := 1033) dL_law_1032 rfl rfl rfl ?_
  refine rl_iload_n (i := 3) (pc' := 1034) dL_law_1033 rfl rfl rfl ?_
  refine rl_iconst (pc' := 1035) dL_law_1034 rfl (by decide) ?_
  refine rl_iadd (pc' := 1036) dL_law_1035 rfl ?_
  refine rl_sldk (k := 1) (pc' := 1037) dL_law_1036 rfl hL (by omega) ?_
  refine rl_call1_I (pc' := 1040) (ww_shares_sp ((xs (i + 1)).toInt) μ) e1 dL_law_1037 rfl mg_X8_shares mi_X8_shares (Or.inl ⟨8, _, TX8, 11, s88_0, rfl⟩) (by decide) ⟨Nat.le_of_ble_eq_true rfl, Nat.le_of_ble_eq_true rfl⟩ wl_55 (Nat.le_of_ble_eq_true rfl) (fun _ => ?_)
  refine rl_aload_n (i := 2) (pc' := 1041) dL_law_1040 rfl rfl rfl ?_
  refine rl_aload_n (i := 0) (pc' := 1042) dL_law_1041 rfl rfl rfl ?_
  refine rl_iload_n (i := 3) (pc' := 1043) dL_law_1042 rfl rfl rfl ?_
  refine rl_iconst (pc' := 1044) dL_law_1043 rfl (by decide) ?_
  refine rl_iadd (pc' := 1045) dL_law_1044 rfl ?_
  refine rl_sldk (k := 1) (pc' := 1046) dL_law_1045 rfl hL (by omega) ?_
  refine rl_call1_I (pc' := 1049) (mod_shares_sp ((xs (i + 1)).toInt) μ) e2 dL_law_1046 rfl mg_X9_shares mi_X9_shares (Or.inl ⟨9, _, TX9, 40, s88_61, rfl⟩) (by decide) ⟨Nat.le_of_ble_eq_true rfl, Nat.le_of_ble_eq_true rfl⟩ wl_56 (Nat.le_of_ble_eq_true rfl) (fun _ => ?_)
  refine rl_icmp_eq (tgt := 1377) dL_law_1049 rfl rfl ?_
  exact next μ hI2
theorem law_track {l : Launch} {G : Nv} {b L : Nat} {xs : Nat → Int32} {Inv : Mem → Prop} (hE : E_track Inv) (hL : L ≤ 2560) {i : Nat} (hi : i + 5 ≤ L) {μ : Mem} (hI : Inv μ) (next : ∀ μ', Inv μ' → RLw l G b L xs 1377 [some (vR 150), some (vR 0), some (vR 61), some (vI (i : Int))] [] μ') : RLw l G b L xs 1054 [some (vR 150), some (vR 0), some (vR 61), some (vI (i : Int))] [] μ := by
  obtain ⟨r, μ1, μ2, e1, e2, hI2⟩ := hE μ hI ((xs (i + 1)).toInt) ((xs (i + 2)).toInt) (i32_C _) (i32_C _)
  refine rl_aload_n (i := 1) (pc' := 1055) dL_law_1054 rfl rfl rfl ?_
  refine rl_aload_n (i := 0) (pc' := 1056) dL_law_1055 rfl rfl rfl ?_
  refine rl_iload_n (i := 3) (pc' := 1057) dL_law_1056 rfl rfl rfl ?_
  refine rl_iconst (pc' := 1058) dL_law_1057 rfl (by decide) ?_
  refine rl_iadd (pc' := 1059) dL_law_1058 rfl ?_
  refine rl_sldk (k := 1) (pc' := 1060) dL_law_1059 rfl hL (by omega) ?_
  refine rl_aload_n (i := 0) (pc' := 1061) dL_law_1060 rfl rfl rfl ?_
  refine rl_iload_n (i := 3) (pc' := 1062) dL_law_1061 rfl rfl rfl ?_
  refine rl_iconst (pc' := 1063) dL_law_1062 rfl (by decide) ?_
  refine rl_iadd (pc' := 1064) dL_law_1063 rfl ?_
  refine rl_sldk (k := 2) (pc' := 1065) dL_law_1064 rfl hL (by omega) ?_
  refine rl_call2_IM (pc' := 1068) (ww_track_sp ((xs (i + 1)).toInt) ((xs (i + 2)).toInt) μ) e1 dL_law_1065 rfl mg_X8_track mi_X8_track (Or.inl ⟨8, _, TX8, 11, s88_0, rfl⟩) (by decide) ⟨Nat.le_of_ble_eq_true rfl, Nat.le_of_ble_eq_true rfl⟩ wl_57 (Nat.le_of_ble_eq_true rfl) (fun _ => ?_)
  refine rl_aload_n (i := 2) (pc' := 1069) dL_law_1068 rfl rfl rfl ?_
  refine rl_aload_n (i := 0) (pc' := 1070) dL_law_1069 rfl rfl rfl ?_
  refine rl_iload_n (i := 3) (pc' := 1071) dL_law_1070 rfl rfl rfl ?_
  refine rl_iconst (pc' := 1072) dL_law_1071 rfl (by decide) ?_
  refine rl_iadd (pc' := 1073) dL_law_1072 rfl ?_
  refine rl_sldk (k := 1) (pc' := 1074) dL_law_1073 rfl hL (by omega) ?_
  refine rl_aload_n (i := 0) (pc' := 1075) dL_law_1074 rfl rfl rfl ?_
  refine rl_iload_n (i := 3) (pc' := 1076) dL_law_1075 rfl rfl rfl ?_
  refine rl_iconst (pc' := 1077) dL_law_1076 rfl (by decide) ?_
  refine rl_iadd (pc' := 1078) dL_law_1077 rfl ?_
  refine rl_sldk (k := 2) (pc' := 1079) dL_law_1078 rfl hL (by omega) ?_
  refine rl_call2_IM (pc' := 1082) (mod_track_sp ((xs (i + 1)).toInt) ((xs (i + 2)).toInt) μ1) e2 dL_law_1079 rfl mg_X9_track mi_X9_track (Or.inl ⟨9, _, TX9, 40, s88_61, rfl⟩) (by decide) ⟨Nat.le_of_ble_eq_true rfl, Nat.le_of_ble_eq_true rfl⟩ wl_58 (Nat.le_of_ble_eq_true rfl) (fun _ => ?_)
  refine rl_icmp_eq (tgt := 1377) dL_law_1082 rfl rfl ?_
  exact next μ2 hI2
theorem law_forget {l : Launch} {G : Nv} {b L : Nat} {xs : Nat → Int32} {Inv : Mem → Prop} (hE : E_forget Inv) (hL : L ≤ 2560) {i : Nat} (hi : i + 5 ≤ L) {μ : Mem} (hI : Inv μ) (next : ∀ μ', Inv μ' → RLw l G b L xs 1377 [some (vR 150), some (vR 0), some (vR 61), some (vI (i : Int))] [] μ') : RLw l G b L xs 1087 [some (vR 150), some (vR 0), some (vR 61), some (vI (i : Int))] [] μ := by
  obtain ⟨r, μ1, μ2, e1, e2, hI2⟩ := hE μ hI ((xs (i + 1)).toInt) (i32_C _)
  refine rl_aload_n (i := 1) (pc' := 1088) dL_law_1087 rfl rfl rfl ?_
  refine rl_aload_n (i := 0) (pc' := 1089) dL_law_1088 rfl rfl rfl ?_
  refine rl_iload_n (i := 3) (pc' := 1090) dL_law_1089 rfl rfl rfl ?_
  refine rl_iconst (pc' := 1091) dL_law_1090 rfl (by decide) ?_
  refine rl_iadd (pc' := 1092) dL_law_1091 rfl ?_
  refine rl_sldk (k := 1) (pc' := 1093) dL_law_1092 rfl hL (by omega) ?_
  refine rl_call1_IM (pc' := 1096) (ww_forget_sp ((xs (i + 1)).toInt) μ) e1 dL_law_1093 rfl mg_X8_forget mi_X8_forget (Or.inl ⟨8, _, TX8, 11, s88_0, rfl⟩) (by decide) ⟨Nat.le_of_ble_eq_true rfl, Nat.le_of_ble_eq_true rfl⟩ wl_59 (Nat.le_of_ble_eq_true rfl) (fun _ => ?_)
  refine rl_aload_n (i := 2) (pc' := 1097) dL_law_1096 rfl rfl rfl ?_
  refine rl_aload_n (i := 0) (pc' := 1098) dL_law_1097 rfl rfl rfl ?_
  refine rl_iload_n (i := 3) (pc' := 1099) dL_law_1098 rfl rfl rfl ?_
  refine rl_iconst (pc' := 1100) dL_law_1099 rfl (by decide) ?_
  refine rl_iadd (pc' := 1101) dL_law_1100 rfl ?_
  refine rl_sldk (k := 1) (pc' := 1102) dL_law_1101 rfl hL (by omega) ?_
  refine rl_call1_IM (pc' := 1105) (mod_forget_sp ((xs (i + 1)).toInt) μ1) e2 dL_law_1102 rfl mg_X9_forget mi_X9_forget (Or.inl ⟨9, _, TX9, 40, s88_61, rfl⟩) (by decide) ⟨Nat.le_of_ble_eq_true rfl, Nat.le_of_ble_eq_true rfl⟩ wl_60 (Nat.le_of_ble_eq_true rfl) (fun _ => ?_)
  refine rl_icmp_eq (tgt := 1377) dL_law_1105 rfl rfl ?_
  exact next μ2 hI2
theorem law_orders {l : Launch} {G : Nv} {b L : Nat} {xs : Nat → Int32} {Inv : Mem → Prop} (hE : E_orders Inv) (hL : L ≤ 2560) {i : Nat} (hi : i + 5 ≤ L) {μ : Mem} (hI : Inv μ) (next : ∀ μ', Inv μ' → RLw l G b L xs 1377 [some (vR 150), some (vR 0), some (vR 61), some (vI (i : Int))] [] μ') : RLw l G b L xs 1110 [some (vR 150), some (vR 0), some (vR 61), some (vI (i : Int))] [] μ := by
  obtain ⟨r, μ1, μ2, e1, e2, hI2⟩ := hE μ hI ((xs (i + 1)).toInt) (i32_C _)
  refine rl_aload_n (i := 1) (pc' := 1111) dL_law_1110 rfl rfl rfl ?_
  refine rl_aload_n (i := 0) (pc' := 1112) dL_law_1111 rfl rfl rfl ?_
  refine rl_iload_n (i := 3) (pc' := 1113) dL_law_1112 rfl rfl rfl ?_
  refine rl_iconst (pc' := 1114) dL_law_1113 rfl (by decide) ?_
  refine rl_iadd (pc' := 1115) dL_law_1114 rfl ?_
  refine rl_sldk (k := 1) (pc' := 1116) dL_law_1115 rfl hL (by omega) ?_
  refine rl_call1_IM (pc' := 1119) (ww_orders_sp ((xs (i + 1)).toInt) μ) e1 dL_law_1116 rfl mg_X8_orders mi_X8_orders (Or.inl ⟨8, _, TX8, 11, s88_0, rfl⟩) (by decide) ⟨Nat.le_of_ble_eq_true rfl, Nat.le_of_ble_eq_true rfl⟩ wl_61 (Nat.le_of_ble_eq_true rfl) (fun _ => ?_)
  refine rl_aload_n (i := 2) (pc' := 1120) dL_law_1119 rfl rfl rfl ?_
  refine rl_aload_n (i := 0) (pc' := 1121) dL_law_1120 rfl rfl rfl ?_
  refine rl_iload_n (i := 3) (pc' := 1122) dL_law_1121 rfl rfl rfl ?_
  refine rl_iconst (pc' := 1123) dL_law_1122 rfl (by decide) ?_
  refine rl_iadd (pc' := 1124) dL_law_1123 rfl ?_
  refine rl_sldk (k := 1) (pc' := 1125) dL_law_1124 rfl hL (by omega) ?_
  refine rl_call1_IM (pc' := 1128) (mod_orders_sp ((xs (i + 1)).toInt) μ1) e2 dL_law_1125 rfl mg_X9_orders mi_X9_orders (Or.inl ⟨9, _, TX9, 40, s88_61, rfl⟩) (by decide) ⟨Nat.le_of_ble_eq_true rfl, Nat.le_of_ble_eq_true rfl⟩ wl_62 (Nat.le_of_ble_eq_true rfl) (fun _ => ?_)
  refine rl_icmp_eq (tgt := 1377) dL_law_1128 rfl rfl ?_
  exact next μ2 hI2
theorem law_whose {l : Launch} {G : Nv} {b L : Nat} {xs : Nat → Int32} {Inv : Mem → Prop} (hE : E_whose Inv) (hL : L ≤ 2560) {i : Nat} (hi : i + 5 ≤ L) {μ : Mem} (hI : Inv μ) (next : ∀ μ', Inv μ' → RLw l G b L xs 1377 [some (vR 150), some (vR 0), some (vR 61), some (vI (i : Int))] [] μ') : RLw l G b L xs 1133 [some (vR 150), some (vR 0), some (vR 61), some (vI (i : Int))] [] μ := by
  obtain ⟨r, μ1, μ2, e1, e2, hI2⟩ := hE μ hI ((xs (i + 1)).toInt) (i32_C _)
  refine rl_aload_n (i := 1) (pc' := 1134) dL_law_1133 rfl rfl rfl ?_
  refine rl_aload_n (i := 0) (pc' := 1135) dL_law_1134 rfl rfl rfl ?_
  refine rl_iload_n (i := 3) (pc' := 1136) dL_law_1135 rfl rfl rfl ?_
  refine rl_iconst (pc' := 1137) dL_law_1136 rfl (by decide) ?_
  refine rl_iadd (pc' := 1138) dL_law_1137 rfl ?_
  refine rl_sldk (k := 1) (pc' := 1139) dL_law_1138 rfl hL (by omega) ?_
  refine rl_call1_IM (pc' := 1142) (ww_whose_sp ((xs (i + 1)).toInt) μ) e1 dL_law_1139 rfl mg_X8_whose mi_X8_whose (Or.inl ⟨8, _, TX8, 11, s88_0, rfl⟩) (by decide) ⟨Nat.le_of_ble_eq_true rfl, Nat.le_of_ble_eq_true rfl⟩ wl_63 (Nat.le_of_ble_eq_true rfl) (fun _ => ?_)
  refine rl_aload_n (i := 2) (pc' := 1143) dL_law_1142 rfl rfl rfl ?_
  refine rl_aload_n (i := 0) (pc' := 1144) dL_law_1143 rfl rfl rfl ?_
  refine rl_iload_n (i := 3) (pc' := 1145) dL_law_1144 rfl rfl rfl ?_
  refine rl_iconst (pc' := 1146) dL_law_1145 rfl (by decide) ?_
  refine rl_iadd (pc' := 1147) dL_law_1146 rfl ?_
  refine rl_sldk (k := 1) (pc' := 1148) dL_law_1147 rfl hL (by omega) ?_
  refine rl_call1_IM (pc' := 1151) (mod_whose_sp ((xs (i + 1)).toInt) μ1) e2 dL_law_1148 rfl mg_X9_whose mi_X9_whose (Or.inl ⟨9, _, TX9, 40, s88_61, rfl⟩) (by decide) ⟨Nat.le_of_ble_eq_true rfl, Nat.le_of_ble_eq_true rfl⟩ wl_64 (Nat.le_of_ble_eq_true rfl) (fun _ => ?_)
  refine rl_icmp_eq (tgt := 1377) dL_law_1151 rfl rfl ?_
  exact next μ2 hI2
theorem law_keep {l : Launch} {G : Nv} {b L : Nat} {xs : Nat → Int32} {Inv : Mem → Prop} (hE : E_keep Inv) (hL : L ≤ 2560) {i : Nat} (hi : i + 5 ≤ L) {μ : Mem} (hI : Inv μ) (next : ∀ μ', Inv μ' → RLw l G b L xs 1377 [some (vR 150), some (vR 0), some (vR 61), some (vI (i : Int))] [] μ') : RLw l G b L xs 1156 [some (vR 150), some (vR 0), some (vR 61), some (vI (i : Int))] [] μ := by
  obtain ⟨r, μ1, μ2, e1, e2, hI2⟩ := hE μ hI ((xs (i + 1)).toInt) (i32_C _)
  refine rl_aload_n (i := 1) (pc' := 1157) dL_law_1156 rfl rfl rfl ?_
  refine rl_aload_n (i := 0) (pc' := 1158) dL_law_1157 rfl rfl rfl ?_
  refine rl_iload_n (i := 3) (pc' := 1159) dL_law_1158 rfl rfl rfl ?_
  refine rl_iconst (pc' := 1160) dL_law_1159 rfl (by decide) ?_
  refine rl_iadd (pc' := 1161) dL_law_1160 rfl ?_
  refine rl_sldk (k := 1) (pc' := 1162) dL_law_1161 rfl hL (by omega) ?_
  refine rl_call1_IM (pc' := 1165) (ww_keep_sp ((xs (i + 1)).toInt) μ) e1 dL_law_1162 rfl mg_X8_keep mi_X8_keep (Or.inl ⟨8, _, TX8, 11, s88_0, rfl⟩) (by decide) ⟨Nat.le_of_ble_eq_true rfl, Nat.le_of_ble_eq_true rfl⟩ wl_65 (Nat.le_of_ble_eq_true rfl) (fun _ => ?_)
  refine rl_aload_n (i := 2) (pc' := 1166) dL_law_1165 rfl rfl rfl ?_
  refine rl_aload_n (i := 0) (pc' := 1167) dL_law_1166 rfl rfl rfl ?_
  refine rl_iload_n (i := 3) (pc' := 1168) dL_law_1167 rfl rfl rfl ?_
  refine rl_iconst (pc' := 1169) dL_law_1168 rfl (by decide) ?_
  refine rl_iadd (pc' := 1170) dL_law_1169 rfl ?_
  refine rl_sldk (k := 1) (pc' := 1171) dL_law_1170 rfl hL (by omega) ?_
  refine rl_call1_IM (pc' := 1174) (mod_keep_sp ((xs (i + 1)).toInt) μ1) e2 dL_law_1171 rfl mg_X9_keep mi_X9_keep (Or.inl ⟨9, _, TX9, 40, s88_61, rfl⟩) (by decide) ⟨Nat.le_of_ble_eq_true rfl, Nat.le_of_ble_eq_true rfl⟩ wl_66 (Nat.le_of_ble_eq_true rfl) (fun _ => ?_)
  refine rl_icmp_eq (tgt := 1377) dL_law_1174 rfl rfl ?_
  exact next μ2 hI2
theorem law_back {l : Launch} {G : Nv} {b L : Nat} {xs : Nat → Int32} {Inv : Mem → Prop} (hE : E_back Inv) (hL : L ≤ 2560) {i : Nat} (hi : i + 5 ≤ L) {μ : Mem} (hI : Inv μ) (next : ∀ μ', Inv μ' → RLw l G b L xs 1377 [some (vR 150), some (vR 0), some (vR 61), some (vI (i : Int))] [] μ') : RLw l G b L xs 1179 [some (vR 150), some (vR 0), some (vR 61), some (vI (i : Int))] [] μ := by
  obtain ⟨r, μ1, μ2, e1, e2, hI2⟩ := hE μ hI ((xs (i + 1)).toInt) (i32_C _)
  refine rl_aload_n (i := 1) (pc' := 1180) dL_law_1179 rfl rfl rfl ?_
  refine rl_aload_n (i := 0) (pc' := 1181) dL_law_1180 rfl rfl rfl ?_
  refine rl_iload_n (i := 3) (pc' := 1182) dL_law_1181 rfl rfl rfl ?_
  refine rl_iconst (pc' := 1183) dL_law_1182 rfl (by decide) ?_
  refine rl_iadd (pc' := 1184) dL_law_1183 rfl ?_
  refine rl_sldk (k := 1) (pc' := 1185) dL_law_1184 rfl hL (by omega) ?_
  refine rl_call1_IM (pc' := 1188) (ww_back_sp ((xs (i + 1)).toInt) μ) e1 dL_law_1185 rfl mg_X8_back mi_X8_back (Or.inl ⟨8, _, TX8, 11, s88_0, rfl⟩) (by decide) ⟨Nat.le_of_ble_eq_true rfl, Nat.le_of_ble_eq_true rfl⟩ wl_67 (Nat.le_of_ble_eq_true rfl) (fun _ => ?_)
  refine rl_aload_n (i := 2) (pc' := 1189) dL_law_1188 rfl rfl rfl ?_
  refine rl_aload_n (i := 0) (pc' := 1190) dL_law_1189 rfl rfl rfl ?_
  refine rl_iload_n (i := 3) (pc' := 1191) dL_law_1190 rfl rfl rfl ?_
  refine rl_iconst (pc' := 1192) dL_law_1191 rfl (by decide) ?_
  refine rl_iadd (pc' := 1193) dL_law_1192 rfl ?_
  refine rl_sldk (k := 1) (pc' := 1194) dL_law_1193 rfl hL (by omega) ?_
  refine rl_call1_IM (pc' := 1197) (mod_back_sp ((xs (i + 1)).toInt) μ1) e2 dL_law_1194 rfl mg_X9_back mi_X9_back (Or.inl ⟨9, _, TX9, 40, s88_61, rfl⟩) (by decide) ⟨Nat.le_of_ble_eq_true rfl, Nat.le_of_ble_eq_true rfl⟩ wl_68 (Nat.le_of_ble_eq_true rfl) (fun _ => ?_)
  refine rl_icmp_eq (tgt := 1377) dL_law_1197 rfl rfl ?_
  exact next μ2 hI2
theorem law_sheet {l : Launch} {G : Nv} {b L : Nat} {xs : Nat → Int32} {Inv : Mem → Prop} (hE : E_sheet Inv) (hL : L ≤ 2560) {i : Nat} (hi : i + 5 ≤ L) {μ : Mem} (hI : Inv μ) (next : ∀ μ', Inv μ' → RLw l G b L xs 1377 [some (vR 150), some (vR 0), some (vR 61), some (vI (i : Int))] [] μ') : RLw l G b L xs 1202 [some (vR 150), some (vR 0), some (vR 61), some (vI (i : Int))] [] μ := by
  obtain ⟨r, μ1, μ2, e1, e2, hI2⟩ := hE μ hI ((xs (i + 1)).toInt) ((xs (i + 2)).toInt) ((xs (i + 3)).toInt) (i32_C _) (i32_C _) (i32_C _)
  refine rl_aload_n (i := 1) (pc' := 1203) dL_law_1202 rfl rfl rfl ?_
  refine rl_aload_n (i := 0) (pc' := 1204) dL_law_1203 rfl rfl rfl ?_
  refine rl_iload_n (i := 3) (pc' := 1205) dL_law_1204 rfl rfl rfl ?_
  refine rl_iconst (pc' := 1206) dL_law_1205 rfl (by decide) ?_
  refine rl_iadd (pc' := 1207) dL_law_1206 rfl ?_
  refine rl_sldk (k := 1) (pc' := 1208) dL_law_1207 rfl hL (by omega) ?_
  refine rl_aload_n (i := 0) (pc' := 1209) dL_law_1208 rfl rfl rfl ?_
  refine rl_iload_n (i := 3) (pc' := 1210) dL_law_1209 rfl rfl rfl ?_
  refine rl_iconst (pc' := 1211) dL_law_1210 rfl (by decide) ?_
  refine rl_iadd (pc' := 1212) dL_law_1211 rfl ?_
  refine rl_sldk (k := 2) (pc' := 1213) dL_law_1212 rfl hL (by omega) ?_
  refine rl_aload_n (i := 0) (pc' := 1214) dL_law_1213 rfl rfl rfl ?_
  refine rl_iload_n (i := 3) (pc' := 1215) dL_law_1214 rfl rfl rfl ?_
  refine rl_iconst (pc' := 1216) dL_law_1215 rfl (by decide) ?_
  refine rl_iadd (pc' := 1217) dL_law_1216 rfl ?_
  refine rl_sldk (k := 3) (pc' := 1218) dL_law_1217 rfl hL (by omega) ?_
  refine rl_call3_IM (pc' := 1221) (ww_sheet_sp ((xs (i + 1)).toInt) ((xs (i + 2)).toInt) ((xs (i + 3)).toInt) μ) e1 dL_law_1218 rfl mg_X8_sheet mi_X8_sheet (Or.inl ⟨8, _, TX8, 11, s88_0, rfl⟩) (by decide) ⟨Nat.le_of_ble_eq_true rfl, Nat.le_of_ble_eq_true rfl⟩ wl_69 (Nat.le_of_ble_eq_true rfl) (fun _ => ?_)
  refine rl_aload_n (i := 2) (pc' := 1222) dL_law_1221 rfl rfl rfl ?_
  refine rl_aload_n (i := 0) (pc' := 1223) dL_law_1222 rfl rfl rfl ?_
  refine rl_iload_n (i := 3) (pc' := 1224) dL_law_1223 rfl rfl rfl ?_
  refine rl_iconst (pc' := 1225) dL_law_1224 rfl (by decide) ?_
  refine rl_iadd (pc' := 1226) dL_law_1225 rfl ?_
  refine rl_sldk (k := 1) (pc' := 1227) dL_law_1226 rfl hL (by omega) ?_
  refine rl_aload_n (i := 0) (pc' := 1228) dL_law_1227 rfl rfl rfl ?_
  refine rl_iload_n (i := 3) (pc' := 1229) dL_law_1228 rfl rfl rfl ?_
  refine rl_iconst (pc' := 1230) dL_law_1229 rfl (by decide) ?_
  refine rl_iadd (pc' := 1231) dL_law_1230 rfl ?_
  refine rl_sldk (k := 2) (pc' := 1232) dL_law_1231 rfl hL (by omega) ?_
  refine rl_aload_n (i := 0) (pc' := 1233) dL_law_1232 rfl rfl rfl ?_
  refine rl_iload_n (i := 3) (pc' := 1234) dL_law_1233 rfl rfl rfl ?_
  refine rl_iconst (pc' := 1235) dL_law_1234 rfl (by decide) ?_
  refine rl_iadd (pc' := 1236) dL_law_1235 rfl ?_
  refine rl_sldk (k := 3) (pc' := 1237) dL_law_1236 rfl hL (by omega) ?_
  refine rl_call3_IM (pc' := 1240) (mod_sheet_sp ((xs (i + 1)).toInt) ((xs (i + 2)).toInt) ((xs (i + 3)).toInt) μ1) e2 dL_law_1237 rfl mg_X9_sheet mi_X9_sheet (Or.inl ⟨9, _, TX9, 40, s88_61, rfl⟩) (by decide) ⟨Nat.le_of_ble_eq_true rfl, Nat.le_of_ble_eq_true rfl⟩ wl_70 (Nat.le_of_ble_eq_true rfl) (fun _ => ?_)
  refine rl_icmp_eq (tgt := 1377) dL_law_1240 rfl rfl ?_
  exact next μ2 hI2
theorem law_lay {l : Launch} {G : Nv} {b L : Nat} {xs : Nat → Int32} {Inv : Mem → Prop} (hE : E_lay Inv) (hL : L ≤ 2560) {i : Nat} (hi : i + 5 ≤ L) {μ : Mem} (hI : Inv μ) (next : ∀ μ', Inv μ' → RLw l G b L xs 1377 [some (vR 150), some (vR 0), some (vR 61), some (vI (i : Int))] [] μ') : RLw l G b L xs 1245 [some (vR 150), some (vR 0), some (vR 61), some (vI (i : Int))] [] μ := by
  obtain ⟨r, μ1, μ2, e1, e2, hI2⟩ := hE μ hI ((xs (i + 1)).toInt) ((xs (i + 2)).toInt) ((xs (i + 3)).toInt) (i32_C _) (i32_C _) (i32_C _)
  refine rl_aload_n (i := 1) (pc' := 1246) dL_law_1245 rfl rfl rfl ?_
  refine rl_aload_n (i := 0) (pc' := 1247) dL_law_1246 rfl rfl rfl ?_
  refine rl_iload_n (i := 3) (pc' := 1248) dL_law_1247 rfl rfl rfl ?_
  refine rl_iconst (pc' := 1249) dL_law_1248 rfl (by decide) ?_
  refine rl_iadd (pc' := 1250) dL_law_1249 rfl ?_
  refine rl_sldk (k := 1) (pc' := 1251) dL_law_1250 rfl hL (by omega) ?_
  refine rl_aload_n (i := 0) (pc' := 1252) dL_law_1251 rfl rfl rfl ?_
  refine rl_iload_n (i := 3) (pc' := 1253) dL_law_1252 rfl rfl rfl ?_
  refine rl_iconst (pc' := 1254) dL_law_1253 rfl (by decide) ?_
  refine rl_iadd (pc' := 1255) dL_law_1254 rfl ?_
  refine rl_sldk (k := 2) (pc' := 1256) dL_law_1255 rfl hL (by omega) ?_
  refine rl_aload_n (i := 0) (pc' := 1257) dL_law_1256 rfl rfl rfl ?_
  refine rl_iload_n (i := 3) (pc' := 1258) dL_law_1257 rfl rfl rfl ?_
  refine rl_iconst (pc' := 1259) dL_law_1258 rfl (by decide) ?_
  refine rl_iadd (pc' := 1260) dL_law_1259 rfl ?_
  refine rl_sldk (k := 3) (pc' := 1261) dL_law_1260 rfl hL (by omega) ?_
  refine rl_call3_IM (pc' := 1264) (ww_lay_sp ((xs (i + 1)).toInt) ((xs (i + 2)).toInt) ((xs (i + 3)).toInt) μ) e1 dL_law_1261 rfl mg_X8_lay mi_X8_lay (Or.inl ⟨8, _, TX8, 11, s88_0, rfl⟩) (by decide) ⟨Nat.le_of_ble_eq_true rfl, Nat.le_of_ble_eq_true rfl⟩ wl_71 (Nat.le_of_ble_eq_true rfl) (fun _ => ?_)
  refine rl_aload_n (i := 2) (pc' := 1265) dL_law_1264 rfl rfl rfl ?_
  refine rl_aload_n (i := 0) (pc' := 1266) dL_law_1265 rfl rfl rfl ?_
  refine rl_iload_n (i := 3) (pc' := 1267) dL_law_1266 rfl rfl rfl ?_
  refine rl_iconst (pc' := 1268) dL_law_1267 rfl (by decide) ?_
  refine rl_iadd (pc' := 1269) dL_law_1268 rfl ?_
  refine rl_sldk (k := 1) (pc' := 1270) dL_law_1269 rfl hL (by omega) ?_
  refine rl_aload_n (i := 0) (pc' := 1271) dL_law_1270 rfl rfl rfl ?_
  refine rl_iload_n (i := 3) (pc' := 1272) dL_law_1271 rfl rfl rfl ?_
  refine rl_iconst (pc' := 1273) dL_law_1272 rfl (by decide) ?_
  refine rl_iadd (pc' := 1274) dL_law_1273 rfl ?_
  refine rl_sldk (k := 2) (pc' := 1275) dL_law_1274 rfl hL (by omega) ?_
  refine rl_aload_n (i := 0) (pc' := 1276) dL_law_1275 rfl rfl rfl ?_
  refine rl_iload_n (i := 3) (pc' := 1277) dL_law_1276 rfl rfl rfl ?_
  refine rl_iconst (pc' := 1278) dL_law_1277 rfl (by decide) ?_
  refine rl_iadd (pc' := 1279) dL_law_1278 rfl ?_
  refine rl_sldk (k := 3) (pc' := 1280) dL_law_1279 rfl hL (by omega) ?_
  refine rl_call3_IM (pc' := 1283) (mod_lay_sp ((xs (i + 1)).toInt) ((xs (i + 2)).toInt) ((xs (i + 3)).toInt) μ1) e2 dL_law_1280 rfl mg_X9_lay mi_X9_lay (Or.inl ⟨9, _, TX9, 40, s88_61, rfl⟩) (by decide) ⟨Nat.le_of_ble_eq_true rfl, Nat.le_of_ble_eq_true rfl⟩ wl_72 (Nat.le_of_ble_eq_true rfl) (fun _ => ?_)
  refine rl_icmp_eq (tgt := 1377) dL_law_1283 rfl rfl ?_
  exact next μ2 hI2
theorem law_read {l : Launch} {G : Nv} {b L : Nat} {xs : Nat → Int32} {Inv : Mem → Prop} (hE : E_read Inv) (hL : L ≤ 2560) {i : Nat} (hi : i + 5 ≤ L) {μ : Mem} (hI : Inv μ) (next : ∀ μ', Inv μ' → RLw l G b L xs 1377 [some (vR 150), some (vR 0), some (vR 61), some (vI (i : Int))] [] μ') : RLw l G b L xs 1288 [some (vR 150), some (vR 0), some (vR 61), some (vI (i : Int))] [] μ := by
  obtain ⟨r, μ1, μ2, e1, e2, hI2⟩ := hE μ hI ((xs (i + 1)).toInt) ((xs (i + 2)).toInt) ((xs (i + 3)).toInt) ((xs (i + 4)).toInt) (i32_C _) (i32_C _) (i32_C _) (i32_C _)
  refine rl_aload_n (i := 1) (pc' := 1289) dL_law_1288 rfl rfl rfl ?_
  refine rl_aload_n (i := 0) (pc' := 1290) dL_law_1289 rfl rfl rfl ?_
  refine rl_iload_n (i := 3) (pc' := 1291) dL_law_1290 rfl rfl rfl ?_
  refine rl_iconst (pc' := 1292) dL_law_1291 rfl (by decide) ?_
  refine rl_iadd (pc' := 1293) dL_law_1292 rfl ?_
  refine rl_sldk (k := 1) (pc' := 1294) dL_law_1293 rfl hL (by omega) ?_
  refine rl_aload_n (i := 0) (pc' := 1295) dL_law_1294 rfl rfl rfl ?_
  refine rl_iload_n (i := 3) (pc' := 1296) dL_law_1295 rfl rfl rfl ?_
  refine rl_iconst (pc' := 1297) dL_law_1296 rfl (by decide) ?_
  refine rl_iadd (pc' := 1298) dL_law_1297 rfl ?_
  refine rl_sldk (k := 2) (pc' := 1299) dL_law_1298 rfl hL (by omega) ?_
  refine rl_aload_n (i := 0) (pc' := 1300) dL_law_1299 rfl rfl rfl ?_
  refine rl_iload_n (i := 3) (pc' := 1301) dL_law_1300 rfl rfl rfl ?_
  refine rl_iconst (pc' := 1302) dL_law_1301 rfl (by decide) ?_
  refine rl_iadd (pc' := 1303) dL_law_1302 rfl ?_
  refine rl_sldk (k := 3) (pc' := 1304) dL_law_1303 rfl hL (by omega) ?_
  refine rl_aload_n (i := 0) (pc' := 1305) dL_law_1304 rfl rfl rfl ?_
  refine rl_iload_n (i := 3) (pc' := 1306) dL_law_1305 rfl rfl rfl ?_
  refine rl_iconst (pc' := 1307) dL_law_1306 rfl (by decide) ?_
  refine rl_iadd (pc' := 1308) dL_law_1307 rfl ?_
  refine rl_sldk (k := 4) (pc' := 1309) dL_law_1308 rfl hL (by omega) ?_
  refine rl_call4_IM (pc' := 1312) (ww_read_sp ((xs (i + 1)).toInt) ((xs (i + 2)).toInt) ((xs (i + 3)).toInt) ((xs (i + 4)).toInt) μ) e1 dL_law_1309 rfl mg_X8_read mi_X8_read (Or.inl ⟨8, _, TX8, 11, s88_0, rfl⟩) (by decide) ⟨Nat.le_of_ble_eq_true rfl, Nat.le_of_ble_eq_true rfl⟩ wl_73 (Nat.le_of_ble_eq_true rfl) (fun _ => ?_)
  refine rl_aload_n (i := 2) (pc' := 1313) dL_law_1312 rfl rfl rfl ?_
  refine rl_aload_n (i := 0) (pc' := 1314) dL_law_1313 rfl rfl rfl ?_
  refine rl_iload_n (i := 3) (pc' := 1315) dL_law_1314 rfl rfl rfl ?_
  refine rl_iconst (pc' := 1316) dL_law_1315 rfl (by decide) ?_
  refine rl_iadd (pc' := 1317) dL_law_1316 rfl ?_
  refine rl_sldk (k := 1) (pc' := 1318) dL_law_1317 rfl hL (by omega) ?_
  refine rl_aload_n (i := 0) (pc' := 1319) dL_law_1318 rfl rfl rfl ?_
  refine rl_iload_n (i := 3) (pc' := 1320) dL_law_1319 rfl rfl rfl ?_
  refine rl_iconst (pc' := 1321) dL_law_1320 rfl (by decide) ?_
  refine rl_iadd (pc' := 1322) dL_law_1321 rfl ?_
  refine rl_sldk (k := 2) (pc' := 1323) dL_law_1322 rfl hL (by omega) ?_
  refine rl_aload_n (i := 0) (pc' := 1324) dL_law_1323 rfl rfl rfl ?_
  refine rl_iload_n (i := 3) (pc' := 1325) dL_law_1324 rfl rfl rfl ?_
  refine rl_iconst (pc' := 1326) dL_law_1325 rfl (by decide) ?_
  refine rl_iadd (pc' := 1327) dL_law_1326 rfl ?_
  refine rl_sldk (k := 3) (pc' := 1328) dL_law_1327 rfl hL (by omega) ?_
  refine rl_aload_n (i := 0) (pc' := 1329) dL_law_1328 rfl rfl rfl ?_
  refine rl_iload_n (i := 3) (pc' := 1330) dL_law_1329 rfl rfl rfl ?_
  refine rl_iconst (pc' := 1331) dL_law_1330 rfl (by decide) ?_
  refine rl_iadd (pc' := 1332) dL_law_1331 rfl ?_
  refine rl_sldk (k := 4) (pc' := 1333) dL_law_1332 rfl hL (by omega) ?_
  refine rl_call4_IM (pc' := 1336) (mod_read_sp ((xs (i + 1)).toInt) ((xs (i + 2)).toInt) ((xs (i + 3)).toInt) ((xs (i + 4)).toInt) μ1) e2 dL_law_1333 rfl mg_X9_read mi_X9_read (Or.inl ⟨9, _, TX9, 40, s88_61, rfl⟩) (by decide) ⟨Nat.le_of_ble_eq_true rfl, Nat.le_of_ble_eq_true rfl⟩ wl_74 (Nat.le_of_ble_eq_true rfl) (fun _ => ?_)
  refine rl_icmp_eq (tgt := 1377) dL_law_1336 rfl rfl ?_
  exact next μ2 hI2
theorem law_torn {l : Launch} {G : Nv} {b L : Nat} {xs : Nat → Int32} {Inv : Mem → Prop} (hE : E_torn Inv) (hL : L ≤ 2560) {i : Nat} (hi : i + 5 ≤ L) {μ : Mem} (hI : Inv μ) (next : ∀ μ', Inv μ' → RLw l G b L xs 1377 [some (vR 150), some (vR 0), some (vR 61), some (vI (i : Int))] [] μ') : RLw l G b L xs 1341 [some (vR 150), some (vR 0), some (vR 61), some (vI (i : Int))] [] μ := by
  obtain ⟨r, e1, e2, hI2⟩ := hE μ hI  
  refine rl_aload_n (i := 1) (pc' := 1342) dL_law_1341 rfl rfl rfl ?_
  refine rl_call0_I (pc' := 1345) (ww_torn_sp  μ) e1 dL_law_1342 rfl mg_X8_torn mi_X8_torn (Or.inl ⟨8, _, TX8, 11, s88_0, rfl⟩) (by decide) ⟨Nat.le_of_ble_eq_true rfl, Nat.le_of_ble_eq_true rfl⟩ wl_75 (Nat.le_of_ble_eq_true rfl) (fun _ => ?_)
  refine rl_aload_n (i := 2) (pc' := 1346) dL_law_1345 rfl rfl rfl ?_
  refine rl_call0_I (pc' := 1349) (mod_torn_sp  μ) e2 dL_law_1346 rfl mg_X9_torn mi_X9_torn (Or.inl ⟨9, _, TX9, 40, s88_61, rfl⟩) (by decide) ⟨Nat.le_of_ble_eq_true rfl, Nat.le_of_ble_eq_true rfl⟩ wl_76 (Nat.le_of_ble_eq_true rfl) (fun _ => ?_)
  refine rl_icmp_eq (tgt := 1377) dL_law_1349 rfl rfl ?_
  exact next μ hI2
theorem law_count {l : Launch} {G : Nv} {b L : Nat} {xs : Nat → Int32} {Inv : Mem → Prop} (hE : E_count Inv) (hL : L ≤ 2560) {i : Nat} (hi : i + 5 ≤ L) {μ : Mem} (hI : Inv μ) (next : ∀ μ', Inv μ' → RLw l G b L xs 1377 [some (vR 150), some (vR 0), some (vR 61), some (vI (i : Int))] [] μ') : RLw l G b L xs 1354 [some (vR 150), some (vR 0), some (vR 61), some (vI (i : Int))] [] μ := by
  obtain ⟨r, e1, e2, hI2⟩ := hE μ hI ((xs (i + 1)).toInt) (i32_C _)
  refine rl_aload_n (i := 1) (pc' := 1355) dL_law_1354 rfl rfl rfl ?_
  refine rl_aload_n (i := 0) (pc' := 1356) dL_law_1355 rfl rfl rfl ?_
  refine rl_iload_n (i := 3) (pc' := 1357) dL_law_1356 rfl rfl rfl ?_
  refine rl_iconst (pc' := 1358) dL_law_1357 rfl (by decide) ?_
  refine rl_iadd (pc' := 1359) dL_law_1358 rfl ?_
  refine rl_sldk (k := 1) (pc' := 1360) dL_law_1359 rfl hL (by omega) ?_
  refine rl_call1_I (pc' := 1363) (ww_count_sp ((xs (i + 1)).toInt) μ) e1 dL_law_1360 rfl mg_X8_count mi_X8_count (Or.inl ⟨8, _, TX8, 11, s88_0, rfl⟩) (by decide) ⟨Nat.le_of_ble_eq_true rfl, Nat.le_of_ble_eq_true rfl⟩ wl_77 (Nat.le_of_ble_eq_true rfl) (fun _ => ?_)
  refine rl_aload_n (i := 2) (pc' := 1364) dL_law_1363 rfl rfl rfl ?_
  refine rl_aload_n (i := 0) (pc' := 1365) dL_law_1364 rfl rfl rfl ?_
  refine rl_iload_n (i := 3) (pc' := 1366) dL_law_1365 rfl rfl rfl ?_
  refine rl_iconst (pc' := 1367) dL_law_1366 rfl (by decide) ?_
  refine rl_iadd (pc' := 1368) dL_law_1367 rfl ?_
  refine rl_sldk (k := 1) (pc' := 1369) dL_law_1368 rfl hL (by omega) ?_
  refine rl_call1_I (pc' := 1372) (mod_count_sp ((xs (i + 1)).toInt) μ) e2 dL_law_1369 rfl mg_X9_count mi_X9_count (Or.inl ⟨9, _, TX9, 40, s88_61, rfl⟩) (by decide) ⟨Nat.le_of_ble_eq_true rfl, Nat.le_of_ble_eq_true rfl⟩ wl_78 (Nat.le_of_ble_eq_true rfl) (fun _ => ?_)
  refine rl_icmp_eq (tgt := 1377) dL_law_1372 rfl rfl ?_
  exact next μ hI2
theorem law_loop {l : Launch} {G : Nv} {b L : Nat} {xs : Nat → Int32} {Inv : Mem → Prop} (hE : EqAll Inv) (hL : L ≤ 2560) : ∀ (n i : Nat) (μ : Mem), L + 5 ≤ i + n → i ≤ L + 5 → Inv μ → RLw l G b L xs 18 [some (vR 150), some (vR 0), some (vR 61), some (vI (i : Int))] [] μ := by
  intro n
  induction n with
  | zero =>
    intro i μ h1 h2 hI
    refine rl_iload_n (i := 3) (pc' := 19) dL_law_18 rfl rfl rfl ?_
    refine rl_aload_n (i := 0) (pc' := 20) dL_law_19 rfl rfl rfl ?_
    refine rl_slen (pc' := 21) dL_law_20 rfl hL ?_
    refine rl_iconst (pc' := 22) dL_law_21 rfl (by decide) ?_
    refine rl_isub (pc' := 23) dL_law_22 rfl ?_
    refine rl_icmp_gt (pc' := 26) (tgt := 1383) dL_law_23 rfl rfl (fun _ => ?_) (fun h => absurd (by rw [wI_id (by omega)]; omega) h)
    refine rl_iconst (pc' := 1384) dL_law_1383 rfl (by decide) ?_
    exact rl_true dL_law_1384
  | succ n ih =>
    intro i μ h1 h2 hI
    refine rl_iload_n (i := 3) (pc' := 19) dL_law_18 rfl rfl rfl ?_
    refine rl_aload_n (i := 0) (pc' := 20) dL_law_19 rfl rfl rfl ?_
    refine rl_slen (pc' := 21) dL_law_20 rfl hL ?_
    refine rl_iconst (pc' := 22) dL_law_21 rfl (by decide) ?_
    refine rl_isub (pc' := 23) dL_law_22 rfl ?_
    refine rl_icmp_gt (pc' := 26) (tgt := 1383) dL_law_23 rfl rfl (fun _ => ?_) (fun h => ?_)
    · refine rl_iconst (pc' := 1384) dL_law_1383 rfl (by decide) ?_
      exact rl_true dL_law_1384
    · rw [wI_id (by omega)] at h
      have hi : i + 5 ≤ L := by omega
      have next : ∀ μ', Inv μ' → RLw l G b L xs 1377 [some (vR 150), some (vR 0), some (vR 61), some (vI (i : Int))] [] μ' := fun μ' hI' => by
        refine rl_iinc (lv' := [some (vR 150), some (vR 0), some (vR 61), some (vI ((i + 5 : Nat) : Int))]) (pc' := 1380) dL_law_1377 rfl (by decide) rfl (by rw [wI_id (by omega)]; rfl) ?_
        refine rl_goto (pc' := 18) dL_law_1380 rfl ?_
        exact ih (i + 5) μ' (by omega) (by omega) hI'
      refine rl_aload_n (i := 0) (pc' := 27) dL_law_26 rfl rfl rfl ?_
      refine rl_iload_n (i := 3) (pc' := 28) dL_law_27 rfl rfl rfl ?_
      refine rl_sld (pc' := 29) dL_law_28 rfl hL (by omega) (by omega) ?_
      refine rl_bipush (pc' := 31) dL_law_29 rfl (by decide) (by decide) ?_
      refine rl_iand (pc' := 32) dL_law_31 rfl ?_
      generalize iAnd (xs (i : Int).toNat).toInt 63 = x
      by_cases c0 : x = 0
      · exact rl_swIn (j := 0) (tgt := 204) dL_law_32 (by omega) (by omega) rfl rfl (law_feed (hE.1) hL hi hI next)
      by_cases c1 : x = 1
      · exact rl_swIn (j := 1) (tgt := 257) dL_law_32 (by omega) (by omega) rfl rfl (law_end (hE.2.1) hL hi hI next)
      by_cases c2 : x = 2
      · exact rl_swIn (j := 2) (tgt := 280) dL_law_32 (by omega) (by omega) rfl rfl (law_text (hE.2.2.1) hL hi hI next)
      by_cases c3 : x = 3
      · exact rl_swIn (j := 3) (tgt := 293) dL_law_32 (by omega) (by omega) rfl rfl (law_fault (hE.2.2.2.1) hL hi hI next)
      by_cases c4 : x = 4
      · exact rl_swIn (j := 4) (tgt := 306) dL_law_32 (by omega) (by omega) rfl rfl (law_yard (hE.2.2.2.2.1) hL hi hI next)
      by_cases c5 : x = 5
      · exact rl_swIn (j := 5) (tgt := 339) dL_law_32 (by omega) (by omega) rfl rfl (law_cart (hE.2.2.2.2.2.1) hL hi hI next)
      by_cases c6 : x = 6
      · exact rl_swIn (j := 6) (tgt := 372) dL_law_32 (by omega) (by omega) rfl rfl (law_frost (hE.2.2.2.2.2.2.1) hL hi hI next)
      by_cases c7 : x = 7
      · exact rl_swIn (j := 7) (tgt := 395) dL_law_32 (by omega) (by omega) rfl rfl (law_dig (hE.2.2.2.2.2.2.2.1) hL hi hI next)
      by_cases c8 : x = 8
      · exact rl_swIn (j := 8) (tgt := 438) dL_law_32 (by omega) (by omega) rfl rfl (law_fill (hE.2.2.2.2.2.2.2.2.1) hL hi hI next)
      by_cases c9 : x = 9
      · exact rl_swIn (j := 9) (tgt := 461) dL_law_32 (by omega) (by omega) rfl rfl (law_shoe (hE.2.2.2.2.2.2.2.2.2.1) hL hi hI next)
      by_cases c10 : x = 10
      · exact rl_swIn (j := 10) (tgt := 494) dL_law_32 (by omega) (by omega) rfl rfl (law_load (hE.2.2.2.2.2.2.2.2.2.2.1) hL hi hI next)
      by_cases c11 : x = 11
      · exact rl_swIn (j := 11) (tgt := 527) dL_law_32 (by omega) (by omega) rfl rfl (law_freeze (hE.2.2.2.2.2.2.2.2.2.2.2.1) hL hi hI next)
      by_cases c12 : x = 12
      · exact rl_swIn (j := 12) (tgt := 576) dL_law_32 (by omega) (by omega) rfl rfl (law_where (hE.2.2.2.2.2.2.2.2.2.2.2.2.1) hL hi hI next)
      by_cases c13 : x = 13
      · exact rl_swIn (j := 13) (tgt := 609) dL_law_32 (by omega) (by omega) rfl rfl (law_depth (hE.2.2.2.2.2.2.2.2.2.2.2.2.2.1) hL hi hI next)
      by_cases c14 : x = 14
      · exact rl_swIn (j := 14) (tgt := 652) dL_law_32 (by omega) (by omega) rfl rfl (law_paid (hE.2.2.2.2.2.2.2.2.2.2.2.2.2.2.1) hL hi hI next)
      by_cases c15 : x = 15
      · exact rl_swIn (j := 15) (tgt := 685) dL_law_32 (by omega) (by omega) rfl rfl (law_waited (hE.2.2.2.2.2.2.2.2.2.2.2.2.2.2.2.1) hL hi hI next)
      by_cases c16 : x = 16
      · exact rl_swIn (j := 16) (tgt := 718) dL_law_32 (by omega) (by omega) rfl rfl (law_done (hE.2.2.2.2.2.2.2.2.2.2.2.2.2.2.2.2.1) hL hi hI next)
      by_cases c17 : x = 17
      · exact rl_swIn (j := 17) (tgt := 741) dL_law_32 (by omega) (by omega) rfl rfl (law_jam (hE.2.2.2.2.2.2.2.2.2.2.2.2.2.2.2.2.2.1) hL hi hI next)
      by_cases c18 : x = 18
      · exact rl_swIn (j := 18) (tgt := 764) dL_law_32 (by omega) (by omega) rfl rfl (law_deepest (hE.2.2.2.2.2.2.2.2.2.2.2.2.2.2.2.2.2.2.1) hL hi hI next)
      by_cases c19 : x = 19
      · exact rl_swIn (j := 19) (tgt := 797) dL_law_32 (by omega) (by omega) rfl rfl (law_go (hE.2.2.2.2.2.2.2.2.2.2.2.2.2.2.2.2.2.2.2.1) hL hi hI next)
      by_cases c20 : x = 20
      · exact rl_swIn (j := 20) (tgt := 820) dL_law_32 (by omega) (by omega) rfl rfl (law_order (hE.2.2.2.2.2.2.2.2.2.2.2.2.2.2.2.2.2.2.2.2.1) hL hi hI next)
      by_cases c21 : x = 21
      · exact rl_swIn (j := 21) (tgt := 843) dL_law_32 (by omega) (by omega) rfl rfl (law_mend (hE.2.2.2.2.2.2.2.2.2.2.2.2.2.2.2.2.2.2.2.2.2.1) hL hi hI next)
      by_cases c22 : x = 22
      · exact rl_swIn (j := 22) (tgt := 866) dL_law_32 (by omega) (by omega) rfl rfl (law_way (hE.2.2.2.2.2.2.2.2.2.2.2.2.2.2.2.2.2.2.2.2.2.2.1) hL hi hI next)
      by_cases c23 : x = 23
      · exact rl_swIn (j := 23) (tgt := 909) dL_law_32 (by omega) (by omega) rfl rfl (law_can (hE.2.2.2.2.2.2.2.2.2.2.2.2.2.2.2.2.2.2.2.2.2.2.2.1) hL hi hI next)
      by_cases c24 : x = 24
      · exact rl_swIn (j := 24) (tgt := 932) dL_law_32 (by omega) (by omega) rfl rfl (law_cost (hE.2.2.2.2.2.2.2.2.2.2.2.2.2.2.2.2.2.2.2.2.2.2.2.2.1) hL hi hI next)
      by_cases c25 : x = 25
      · exact rl_swIn (j := 25) (tgt := 955) dL_law_32 (by omega) (by omega) rfl rfl (law_price (hE.2.2.2.2.2.2.2.2.2.2.2.2.2.2.2.2.2.2.2.2.2.2.2.2.2.1) hL hi hI next)
      by_cases c26 : x = 26
      · exact rl_swIn (j := 26) (tgt := 988) dL_law_32 (by omega) (by omega) rfl rfl (law_firm (hE.2.2.2.2.2.2.2.2.2.2.2.2.2.2.2.2.2.2.2.2.2.2.2.2.2.2.1) hL hi hI next)
      by_cases c27 : x = 27
      · exact rl_swIn (j := 27) (tgt := 1031) dL_law_32 (by omega) (by omega) rfl rfl (law_shares (hE.2.2.2.2.2.2.2.2.2.2.2.2.2.2.2.2.2.2.2.2.2.2.2.2.2.2.2.1) hL hi hI next)
      by_cases c28 : x = 28
      · exact rl_swIn (j := 28) (tgt := 1054) dL_law_32 (by omega) (by omega) rfl rfl (law_track (hE.2.2.2.2.2.2.2.2.2.2.2.2.2.2.2.2.2.2.2.2.2.2.2.2.2.2.2.2.1) hL hi hI next)
      by_cases c29 : x = 29
      · exact rl_swIn (j := 29) (tgt := 1087) dL_law_32 (by omega) (by omega) rfl rfl (law_forget (hE.2.2.2.2.2.2.2.2.2.2.2.2.2.2.2.2.2.2.2.2.2.2.2.2.2.2.2.2.2.1) hL hi hI next)
      by_cases c30 : x = 30
      · exact rl_swIn (j := 30) (tgt := 1110) dL_law_32 (by omega) (by omega) rfl rfl (law_orders (hE.2.2.2.2.2.2.2.2.2.2.2.2.2.2.2.2.2.2.2.2.2.2.2.2.2.2.2.2.2.2.1) hL hi hI next)
      by_cases c31 : x = 31
      · exact rl_swIn (j := 31) (tgt := 1133) dL_law_32 (by omega) (by omega) rfl rfl (law_whose (hE.2.2.2.2.2.2.2.2.2.2.2.2.2.2.2.2.2.2.2.2.2.2.2.2.2.2.2.2.2.2.2.1) hL hi hI next)
      by_cases c32 : x = 32
      · exact rl_swIn (j := 32) (tgt := 1156) dL_law_32 (by omega) (by omega) rfl rfl (law_keep (hE.2.2.2.2.2.2.2.2.2.2.2.2.2.2.2.2.2.2.2.2.2.2.2.2.2.2.2.2.2.2.2.2.1) hL hi hI next)
      by_cases c33 : x = 33
      · exact rl_swIn (j := 33) (tgt := 1179) dL_law_32 (by omega) (by omega) rfl rfl (law_back (hE.2.2.2.2.2.2.2.2.2.2.2.2.2.2.2.2.2.2.2.2.2.2.2.2.2.2.2.2.2.2.2.2.2.1) hL hi hI next)
      by_cases c34 : x = 34
      · exact rl_swIn (j := 34) (tgt := 1202) dL_law_32 (by omega) (by omega) rfl rfl (law_sheet (hE.2.2.2.2.2.2.2.2.2.2.2.2.2.2.2.2.2.2.2.2.2.2.2.2.2.2.2.2.2.2.2.2.2.2.1) hL hi hI next)
      by_cases c35 : x = 35
      · exact rl_swIn (j := 35) (tgt := 1245) dL_law_32 (by omega) (by omega) rfl rfl (law_lay (hE.2.2.2.2.2.2.2.2.2.2.2.2.2.2.2.2.2.2.2.2.2.2.2.2.2.2.2.2.2.2.2.2.2.2.2.1) hL hi hI next)
      by_cases c36 : x = 36
      · exact rl_swIn (j := 36) (tgt := 1288) dL_law_32 (by omega) (by omega) rfl rfl (law_read (hE.2.2.2.2.2.2.2.2.2.2.2.2.2.2.2.2.2.2.2.2.2.2.2.2.2.2.2.2.2.2.2.2.2.2.2.2.1) hL hi hI next)
      by_cases c37 : x = 37
      · exact rl_swIn (j := 37) (tgt := 1341) dL_law_32 (by omega) (by omega) rfl rfl (law_torn (hE.2.2.2.2.2.2.2.2.2.2.2.2.2.2.2.2.2.2.2.2.2.2.2.2.2.2.2.2.2.2.2.2.2.2.2.2.2.1) hL hi hI next)
      by_cases c38 : x = 38
      · exact rl_swIn (j := 38) (tgt := 1354) dL_law_32 (by omega) (by omega) rfl rfl (law_count (hE.2.2.2.2.2.2.2.2.2.2.2.2.2.2.2.2.2.2.2.2.2.2.2.2.2.2.2.2.2.2.2.2.2.2.2.2.2.2) hL hi hI next)
      exact rl_swOut (tgt := 1377) dL_law_32 (by omega) rfl (next μ hI)
