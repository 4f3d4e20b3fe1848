/-! the law -/
def rds (Ln : Nat) (xs : Nat → Int32) (i : Int32) : Option Int32 := if i < 0 ∨ Ln ≤ i.toNatClampNeg then none else some (xs i.toNatClampNeg)
def LX (k : KT) (b Ln : Nat) (xs : Nat → Int32) : Prop := va_X b Ln xs (ks k) (ks k).heap ∧ b < (ks k).heap.size ∧ ¬ AW (kh k) b
def RW (k : KT) (q : Int32) : Prop := q = 1 ∧ kQ k = lw_Z (kb k) (ka k) (ks k) ∧ kR k = room_1 ∧ (∃ b, ka k = #[Value.ref b]) ∧ kh k = (ks k).heap.size ∧ kcn k ≤ 600000 ∧ ksn k ≤ 7302250
section LAWROWS
variable {α : Type} {k : KT} {q : α} {pc pc' : Nat} {L : List (Nat × Value)} {st : List Value} {t : Option α} {cc : ByteArray} {own : String} {nL h : Nat} {ret : Option FieldType} {M : Mem} {b Ln : Nat} {xs : Nat → Int32}
theorem GG_sld (hk : CX k cc own nL ret h) (hX : LX k b Ln xs) {i : Int32} {g : Int32 → Option α} (hd : decode cc pc = .ok (.iaload, 1)) (hp : pc + 1 = pc') (x : ∀ v, rds Ln xs i = some v → GG k q (wM k M) pc' L (.int v :: st) (g v)) : GG k q (wM k M) pc L (.int i :: .ref b :: st) (Option.bind (rds Ln xs i) g) := by
  subst hp
  intro ht H locs hP hS ls hl
  by_cases hb : i < 0 ∨ Ln ≤ i.toNatClampNeg
  · simp [rds, hb] at ht
  · have e : rds Ln xs i = some _ := if_neg hb
    rw [e] at ht
    exact va_sld hk.1 hk.2.1 hX.1 hX.2.1 hX.2.2 hS hb hd (x _ e ht H locs hP hS ls hl)
theorem GG_slen (hk : CX k cc own nL ret h) (hX : LX k b Ln xs) (hd : decode cc pc = .ok (.arraylength, 1)) (hp : pc + 1 = pc') (x : GG k q (wM k M) pc' L (.int (Int32.ofNat Ln) :: st) t) : GG k q (wM k M) pc L (.ref b :: st) t := by
  subst hp
  intro ht H locs hP hS ls hl
  exact va_slen hk.1 hk.2.1 hX.1 hX.2.1 hX.2.2 hS hd (x ht H locs hP hS ls hl)
end LAWROWS
theorem GG_lawret {k : KT} {q x : Int32} {pc : Nat} {L : List (Nat × Value)} {own : String} {nL h : Nat} {M : Mem} (hk : CX k cL_law own nL ret h) (hq : RW k q) (hd : decode cL_law pc = .ok (.ireturn, 1)) : GG k q (wM k M) pc L [.int x] (some x) := by
  intro ht H locs hP hS ls hl
  obtain ⟨rfl, h2, h3, ⟨b, h4⟩, h5, h6, h7⟩ := hq
  have e : x = 1 := Option.some.inj ht
  subst e
  show W (kp k) (kl k) (ke k) (kR k) (ks k) (km k) (ka k) (kb k) (kme k) (kc k) H locs (kcn k) (ksn k) (kQ k) (F0 (km k) pc ls [.int 1])
  refine va_forget (fun q hq => ?_) (W.widen h6 h7 ?_)
  · have := hS.2.2 q hq
    rw [← h5]
    exact this
  · rw [h2, h3, h4]
    exact lw_ret hk.1 hk.2.1 hk.2.2.2.2.2.2.1 hk.2.2.2.2.2.2.2.1 hd
noncomputable def f_L_law_18 (xs : Nat → Int32) (Ln : Nat) : Nat → Mem → Int32 → Option Int32
  | 0, _, _ => none
  | n + 1, M, l3 =>
    if ((Int32.ofNat Ln) - 5) < l3 then
      some 1
    else
      Option.bind (rds Ln xs l3) fun v2 =>
      if (v2 &&& 63) = 0 then
        Option.bind (rds Ln xs (l3 + 1)) fun v4 =>
        Option.bind (f_X7_letter M v4) fun z5 =>
        Option.bind (rds Ln xs (l3 + 1)) fun v6 =>
        Option.bind (f_X8_letter z5.2 v6) fun z7 =>
        if z5.1 = z7.1 then
          f_L_law_18 xs Ln  n z7.2 (l3 + 5)
        else
          some 0
      else
        if (v2 &&& 63) = 1 then
          Option.bind (f_X7_settings M ) fun z10 =>
          Option.bind (f_X8_settings z10.2 ) fun z11 =>
          if z10.1 = z11.1 then
            f_L_law_18 xs Ln  n z11.2 (l3 + 5)
          else
            some 0
        else
          if (v2 &&& 63) = 2 then
            Option.bind (rds Ln xs (l3 + 1)) fun v14 =>
            Option.bind (f_X7_turns M v14) fun z15 =>
            Option.bind (rds Ln xs (l3 + 1)) fun v16 =>
            Option.bind (f_X8_turns z15.2 v16) fun z17 =>
            if z15.1 = z17.1 then
              f_L_law_18 xs Ln  n z17.2 (l3 + 5)
            else
              some 0
          else
            if (v2 &&& 63) = 3 then
              Option.bind (rds Ln xs (l3 + 1)) fun v20 =>
              Option.bind (rds Ln xs (l3 + 2)) fun v21 =>
              Option.bind (rds Ln xs (l3 + 3)) fun v22 =>
              Option.bind (f_X7_kind M v20 v21 v22) fun z23 =>
              Option.bind (rds Ln xs (l3 + 1)) fun v24 =>
              Option.bind (rds Ln xs (l3 + 2)) fun v25 =>
              Option.bind (rds Ln xs (l3 + 3)) fun v26 =>
              Option.bind (f_X8_kind z23.2 v24 v25 v26) fun z27 =>
              if z23.1 = z27.1 then
                f_L_law_18 xs Ln  n z27.2 (l3 + 5)
              else
                some 0
            else
              if (v2 &&& 63) = 4 then
                Option.bind (rds Ln xs (l3 + 1)) fun v30 =>
                Option.bind (rds Ln xs (l3 + 2)) fun v31 =>
                Option.bind (f_X7_manner M v30 v31) fun z32 =>
                Option.bind (rds Ln xs (l3 + 1)) fun v33 =>
                Option.bind (rds Ln xs (l3 + 2)) fun v34 =>
                Option.bind (f_X8_manner z32.2 v33 v34) fun z35 =>
                if z32.1 = z35.1 then
                  f_L_law_18 xs Ln  n z35.2 (l3 + 5)
                else
                  some 0
              else
                if (v2 &&& 63) = 5 then
                  Option.bind (rds Ln xs (l3 + 1)) fun v38 =>
                  Option.bind (rds Ln xs (l3 + 2)) fun v39 =>
                  Option.bind (rds Ln xs (l3 + 3)) fun v40 =>
                  Option.bind (f_X7_sets M v38 v39 v40) fun z41 =>
                  Option.bind (rds Ln xs (l3 + 1)) fun v42 =>
                  Option.bind (rds Ln xs (l3 + 2)) fun v43 =>
                  Option.bind (rds Ln xs (l3 + 3)) fun v44 =>
                  Option.bind (f_X8_sets z41.2 v42 v43 v44) fun z45 =>
                  if z41.1 = z45.1 then
                    f_L_law_18 xs Ln  n z45.2 (l3 + 5)
                  else
                    some 0
                else
                  if (v2 &&& 63) = 6 then
                    Option.bind (rds Ln xs (l3 + 1)) fun v48 =>
                    Option.bind (rds Ln xs (l3 + 2)) fun v49 =>
                    Option.bind (rds Ln xs (l3 + 3)) fun v50 =>
                    Option.bind (rds Ln xs (l3 + 4)) fun v51 =>
                    Option.bind (f_X7_adds M v48 v49 v50 v51) fun z52 =>
                    Option.bind (rds Ln xs (l3 + 1)) fun v53 =>
                    Option.bind (rds Ln xs (l3 + 2)) fun v54 =>
                    Option.bind (rds Ln xs (l3 + 3)) fun v55 =>
                    Option.bind (rds Ln xs (l3 + 4)) fun v56 =>
                    Option.bind (f_X8_adds z52.2 v53 v54 v55 v56) fun z57 =>
                    if z52.1 = z57.1 then
                      f_L_law_18 xs Ln  n z57.2 (l3 + 5)
                    else
                      some 0
                  else
                    if (v2 &&& 63) = 7 then
                      Option.bind (rds Ln xs (l3 + 1)) fun v60 =>
                      Option.bind (rds Ln xs (l3 + 2)) fun v61 =>
                      Option.bind (rds Ln xs (l3 + 3)) fun v62 =>
                      Option.bind (rds Ln xs (l3 + 4)) fun v63 =>
                      Option.bind (f_X7_refers M v60 v61 v62 v63) fun z64 =>
                      Option.bind (rds Ln xs (l3 + 1)) fun v65 =>
                      Option.bind (rds Ln xs (l3 + 2)) fun v66 =>
                      Option.bind (rds Ln xs (l3 + 3)) fun v67 =>
                      Option.bind (rds Ln xs (l3 + 4)) fun v68 =>
                      Option.bind (f_X8_refers z64.2 v65 v66 v67 v68) fun z69 =>
                      if z64.1 = z69.1 then
                        f_L_law_18 xs Ln  n z69.2 (l3 + 5)
                      else
                        some 0
                    else
                      if (v2 &&& 63) = 8 then
                        Option.bind (rds Ln xs (l3 + 1)) fun v72 =>
                        Option.bind (rds Ln xs (l3 + 2)) fun v73 =>
                        Option.bind (f_X7_gap M v72 v73) fun z74 =>
                        Option.bind (rds Ln xs (l3 + 1)) fun v75 =>
                        Option.bind (rds Ln xs (l3 + 2)) fun v76 =>
                        Option.bind (f_X8_gap z74.2 v75 v76) fun z77 =>
                        if z74.1 = z77.1 then
                          f_L_law_18 xs Ln  n z77.2 (l3 + 5)
                        else
                          some 0
                      else
                        if (v2 &&& 63) = 9 then
                          Option.bind (rds Ln xs (l3 + 1)) fun v80 =>
                          Option.bind (rds Ln xs (l3 + 2)) fun v81 =>
                          Option.bind (f_X7_drops M v80 v81) fun z82 =>
                          Option.bind (rds Ln xs (l3 + 1)) fun v83 =>
                          Option.bind (rds Ln xs (l3 + 2)) fun v84 =>
                          Option.bind (f_X8_drops z82.2 v83 v84) fun z85 =>
                          if z82.1 = z85.1 then
                            f_L_law_18 xs Ln  n z85.2 (l3 + 5)
                          else
                            some 0
                        else
                          if (v2 &&& 63) = 10 then
                            Option.bind (rds Ln xs (l3 + 1)) fun v88 =>
                            Option.bind (rds Ln xs (l3 + 2)) fun v89 =>
                            Option.bind (f_X7_layer M v88 v89) fun z90 =>
                            Option.bind (rds Ln xs (l3 + 1)) fun v91 =>
                            Option.bind (rds Ln xs (l3 + 2)) fun v92 =>
                            Option.bind (f_X8_layer z90.2 v91 v92) fun z93 =>
                            if z90.1 = z93.1 then
                              f_L_law_18 xs Ln  n z93.2 (l3 + 5)
                            else
                              some 0
                          else
                            if (v2 &&& 63) = 11 then
                              Option.bind (rds Ln xs (l3 + 1)) fun v96 =>
                              Option.bind (rds Ln xs (l3 + 2)) fun v97 =>
                              Option.bind (rds Ln xs (l3 + 3)) fun v98 =>
                              Option.bind (f_X7_entry M v96 v97 v98) fun z99 =>
                              Option.bind (rds Ln xs (l3 + 1)) fun v100 =>
                              Option.bind (rds Ln xs (l3 + 2)) fun v101 =>
                              Option.bind (rds Ln xs (l3 + 3)) fun v102 =>
                              Option.bind (f_X8_entry_ z99.2 v100 v101 v102) fun z103 =>
                              if z99.1 = z103.1 then
                                f_L_law_18 xs Ln  n z103.2 (l3 + 5)
                              else
                                some 0
                            else
                              if (v2 &&& 63) = 12 then
                                Option.bind (rds Ln xs (l3 + 1)) fun v106 =>
                                Option.bind (rds Ln xs (l3 + 2)) fun v107 =>
                                Option.bind (f_X7_value M v106 v107) fun z108 =>
                                Option.bind (rds Ln xs (l3 + 1)) fun v109 =>
                                Option.bind (rds Ln xs (l3 + 2)) fun v110 =>
                                Option.bind (f_X8_value z108.2 v109 v110) fun z111 =>
                                if z108.1 = z111.1 then
                                  f_L_law_18 xs Ln  n z111.2 (l3 + 5)
                                else
                                  some 0
                              else
                                if (v2 &&& 63) = 13 then
                                  Option.bind (rds Ln xs (l3 + 1)) fun v114 =>
                                  Option.bind (rds Ln xs (l3 + 2)) fun v115 =>
                                  Option.bind (rds Ln xs (l3 + 3)) fun v116 =>
                                  Option.bind (f_X7_item M v114 v115 v116) fun z117 =>
                                  Option.bind (rds Ln xs (l3 + 1)) fun v118 =>
                                  Option.bind (rds Ln xs (l3 + 2)) fun v119 =>
                                  Option.bind (rds Ln xs (l3 + 3)) fun v120 =>
                                  Option.bind (f_X8_item z117.2 v118 v119 v120) fun z121 =>
                                  if z117.1 = z121.1 then
                                    f_L_law_18 xs Ln  n z121.2 (l3 + 5)
                                  else
                                    some 0
                                else
                                  if (v2 &&& 63) = 14 then
                                    Option.bind (rds Ln xs (l3 + 1)) fun v124 =>
                                    Option.bind (rds Ln xs (l3 + 2)) fun v125 =>
                                    Option.bind (rds Ln xs (l3 + 3)) fun v126 =>
                                    Option.bind (f_X7_fault M v124 v125 v126) fun z127 =>
                                    Option.bind (rds Ln xs (l3 + 1)) fun v128 =>
                                    Option.bind (rds Ln xs (l3 + 2)) fun v129 =>
                                    Option.bind (rds Ln xs (l3 + 3)) fun v130 =>
                                    Option.bind (f_X8_fault z127.2 v128 v129 v130) fun z131 =>
                                    if z127.1 = z131.1 then
                                      f_L_law_18 xs Ln  n z131.2 (l3 + 5)
                                    else
                                      some 0
                                  else
                                    if (v2 &&& 63) = 15 then
                                      Option.bind (rds Ln xs (l3 + 1)) fun v134 =>
                                      Option.bind (rds Ln xs (l3 + 2)) fun v135 =>
                                      Option.bind (f_X7_sources M v134 v135) fun z136 =>
                                      Option.bind (rds Ln xs (l3 + 1)) fun v137 =>
                                      Option.bind (rds Ln xs (l3 + 2)) fun v138 =>
                                      Option.bind (f_X8_sources z136.2 v137 v138) fun z139 =>
                                      if z136.1 = z139.1 then
                                        f_L_law_18 xs Ln  n z139.2 (l3 + 5)
                                      else
                                        some 0
                                    else
                                      if (v2 &&& 63) = 16 then
                                        Option.bind (rds Ln xs (l3 + 1)) fun v142 =>
                                        Option.bind (rds Ln xs (l3 + 2)) fun v143 =>
                                        Option.bind (f_X7_uses M v142 v143) fun z144 =>
                                        Option.bind (rds Ln xs (l3 + 1)) fun v145 =>
                                        Option.bind (rds Ln xs (l3 + 2)) fun v146 =>
                                        Option.bind (f_X8_uses z144.2 v145 v146) fun z147 =>
                                        if z144.1 = z147.1 then
                                          f_L_law_18 xs Ln  n z147.2 (l3 + 5)
                                        else
                                          some 0
                                      else
                                        if (v2 &&& 63) = 17 then
                                          Option.bind (rds Ln xs (l3 + 1)) fun v150 =>
                                          Option.bind (f_X7_all M v150) fun z151 =>
                                          Option.bind (rds Ln xs (l3 + 1)) fun v152 =>
                                          Option.bind (f_X8_all z151.2 v152) fun z153 =>
                                          if z151.1 = z153.1 then
                                            f_L_law_18 xs Ln  n z153.2 (l3 + 5)
                                          else
                                            some 0
                                        else
                                          if (v2 &&& 63) = 18 then
                                            Option.bind (rds Ln xs (l3 + 1)) fun v156 =>
                                            Option.bind (f_X7_hidden M v156) fun z157 =>
                                            Option.bind (rds Ln xs (l3 + 1)) fun v158 =>
                                            Option.bind (f_X8_hidden z157.2 v158) fun z159 =>
                                            if z157.1 = z159.1 then
                                              f_L_law_18 xs Ln  n z159.2 (l3 + 5)
                                            else
                                              some 0
                                          else
                                            if (v2 &&& 63) = 19 then
                                              Option.bind (rds Ln xs (l3 + 1)) fun v162 =>
                                              Option.bind (rds Ln xs (l3 + 2)) fun v163 =>
                                              Option.bind (f_X7_without M v162 v163) fun z164 =>
                                              Option.bind (rds Ln xs (l3 + 1)) fun v165 =>
                                              Option.bind (rds Ln xs (l3 + 2)) fun v166 =>
                                              Option.bind (f_X8_without z164.2 v165 v166) fun z167 =>
                                              if z164.1 = z167.1 then
                                                f_L_law_18 xs Ln  n z167.2 (l3 + 5)
                                              else
                                                some 0
                                            else
                                              if (v2 &&& 63) = 20 then
                                                Option.bind (rds Ln xs (l3 + 1)) fun v170 =>
                                                Option.bind (rds Ln xs (l3 + 2)) fun v171 =>
                                                Option.bind (f_X7_turn M v170 v171) fun z172 =>
                                                Option.bind (rds Ln xs (l3 + 1)) fun v173 =>
                                                Option.bind (rds Ln xs (l3 + 2)) fun v174 =>
                                                Option.bind (f_X8_turn z172.2 v173 v174) fun z175 =>
                                                if z172.1 = z175.1 then
                                                  f_L_law_18 xs Ln  n z175.2 (l3 + 5)
                                                else
                                                  some 0
                                              else
                                                if (v2 &&& 63) = 21 then
                                                  Option.bind (rds Ln xs (l3 + 1)) fun v178 =>
                                                  Option.bind (rds Ln xs (l3 + 2)) fun v179 =>
                                                  Option.bind (rds Ln xs (l3 + 3)) fun v180 =>
                                                  Option.bind (rds Ln xs (l3 + 4)) fun v181 =>
                                                  Option.bind (f_X7_set M v178 v179 v180 v181) fun z182 =>
                                                  Option.bind (rds Ln xs (l3 + 1)) fun v183 =>
                                                  Option.bind (rds Ln xs (l3 + 2)) fun v184 =>
                                                  Option.bind (rds Ln xs (l3 + 3)) fun v185 =>
                                                  Option.bind (rds Ln xs (l3 + 4)) fun v186 =>
                                                  Option.bind (f_X8_set z182.2 v183 v184 v185 v186) fun z187 =>
                                                  if z182.1 = z187.1 then
                                                    f_L_law_18 xs Ln  n z187.2 (l3 + 5)
                                                  else
                                                    some 0
                                                else
                                                  if (v2 &&& 63) = 22 then
                                                    Option.bind (rds Ln xs (l3 + 1)) fun v190 =>
                                                    Option.bind (rds Ln xs (l3 + 2)) fun v191 =>
                                                    Option.bind (f_X7_byManner M v190 v191) fun z192 =>
                                                    Option.bind (rds Ln xs (l3 + 1)) fun v193 =>
                                                    Option.bind (rds Ln xs (l3 + 2)) fun v194 =>
                                                    Option.bind (f_X8_byManner z192.2 v193 v194) fun z195 =>
                                                    if z192.1 = z195.1 then
                                                      f_L_law_18 xs Ln  n z195.2 (l3 + 5)
                                                    else
                                                      some 0
                                                  else
                                                    if (v2 &&& 63) = 23 then
                                                      Option.bind (f_X7_fewest M ) fun z198 =>
                                                      Option.bind (f_X8_fewest z198.2 ) fun z199 =>
                                                      if z198.1 = z199.1 then
                                                        f_L_law_18 xs Ln  n z199.2 (l3 + 5)
                                                      else
                                                        some 0
                                                    else
                                                      if (v2 &&& 63) = 24 then
                                                        Option.bind (f_X7_since M ) fun z202 =>
                                                        Option.bind (f_X8_since z202.2 ) fun z203 =>
                                                        if z202.1 = z203.1 then
                                                          f_L_law_18 xs Ln  n z203.2 (l3 + 5)
                                                        else
                                                          some 0
                                                      else
                                                        if (v2 &&& 63) = 25 then
                                                          Option.bind (rds Ln xs (l3 + 1)) fun v206 =>
                                                          Option.bind (rds Ln xs (l3 + 2)) fun v207 =>
                                                          Option.bind (rds Ln xs (l3 + 3)) fun v208 =>
                                                          Option.bind (rds Ln xs (l3 + 4)) fun v209 =>
                                                          Option.bind (f_X7_missing M v206 v207 v208 v209) fun z210 =>
                                                          Option.bind (rds Ln xs (l3 + 1)) fun v211 =>
                                                          Option.bind (rds Ln xs (l3 + 2)) fun v212 =>
                                                          Option.bind (rds Ln xs (l3 + 3)) fun v213 =>
                                                          Option.bind (rds Ln xs (l3 + 4)) fun v214 =>
                                                          Option.bind (f_X8_missing z210.2 v211 v212 v213 v214) fun z215 =>
                                                          if (lg_cmp z210.1 z215.1) = 0 then
                                                            f_L_law_18 xs Ln  n z215.2 (l3 + 5)
                                                          else
                                                            some 0
                                                        else
                                                          if (v2 &&& 63) = 26 then
                                                            Option.bind (rds Ln xs (l3 + 1)) fun v218 =>
                                                            Option.bind (f_X7_mean M v218) fun z219 =>
                                                            Option.bind (rds Ln xs (l3 + 1)) fun v220 =>
                                                            Option.bind (f_X8_mean z219.2 v220) fun z221 =>
                                                            if (lg_cmp z219.1 z221.1) = 0 then
                                                              f_L_law_18 xs Ln  n z221.2 (l3 + 5)
                                                            else
                                                              some 0
                                                          else
                                                            if (v2 &&& 63) = 27 then
                                                              Option.bind (rds Ln xs (l3 + 1)) fun v224 =>
                                                              Option.bind (rds Ln xs (l3 + 2)) fun v225 =>
                                                              Option.bind (f_X7_whatIs M v224 v225) fun z226 =>
                                                              Option.bind (rds Ln xs (l3 + 1)) fun v227 =>
                                                              Option.bind (rds Ln xs (l3 + 2)) fun v228 =>
                                                              Option.bind (f_X8_whatIs z226.2 v227 v228) fun z229 =>
                                                              if z226.1 = z229.1 then
                                                                f_L_law_18 xs Ln  n z229.2 (l3 + 5)
                                                              else
                                                                some 0
                                                            else
                                                              if (v2 &&& 63) = 28 then
                                                                Option.bind (rds Ln xs (l3 + 1)) fun v232 =>
                                                                Option.bind (f_X7_row M v232) fun z233 =>
                                                                Option.bind (rds Ln xs (l3 + 1)) fun v234 =>
                                                                Option.bind (f_X8_row z233.2 v234) fun z235 =>
                                                                if z233.1 = z235.1 then
                                                                  f_L_law_18 xs Ln  n z235.2 (l3 + 5)
                                                                else
                                                                  some 0
                                                              else
                                                                if (v2 &&& 63) = 29 then
                                                                  Option.bind (f_X7_judge M ) fun z238 =>
                                                                  Option.bind (f_X8_judge z238.2 ) fun z239 =>
                                                                  if z238.1 = z239.1 then
                                                                    f_L_law_18 xs Ln  n z239.2 (l3 + 5)
                                                                  else
                                                                    some 0
                                                                else
                                                                  if (v2 &&& 63) = 30 then
                                                                    Option.bind (f_X7_clear M ) fun z242 =>
                                                                    Option.bind (f_X8_clear z242.2 ) fun z243 =>
                                                                    if z242.1 = z243.1 then
                                                                      f_L_law_18 xs Ln  n z243.2 (l3 + 5)
                                                                    else
                                                                      some 0
                                                                  else
                                                                    if (v2 &&& 63) = 31 then
                                                                      Option.bind (rds Ln xs (l3 + 1)) fun v246 =>
                                                                      Option.bind (rds Ln xs (l3 + 2)) fun v247 =>
                                                                      Option.bind (rds Ln xs (l3 + 3)) fun v248 =>
                                                                      Option.bind (f_X7_lots M v246 v247 v248) fun z249 =>
                                                                      Option.bind (rds Ln xs (l3 + 1)) fun v250 =>
                                                                      Option.bind (rds Ln xs (l3 + 2)) fun v251 =>
                                                                      Option.bind (rds Ln xs (l3 + 3)) fun v252 =>
                                                                      Option.bind (f_X8_lots z249.2 v250 v251 v252) fun z253 =>
                                                                      if z249.1 = z253.1 then
                                                                        f_L_law_18 xs Ln  n z253.2 (l3 + 5)
                                                                      else
                                                                        some 0
                                                                    else
                                                                      if (v2 &&& 63) = 32 then
                                                                        Option.bind (f_X7_image M ) fun z256 =>
                                                                        Option.bind (f_X8_image z256.2 ) fun z257 =>
                                                                        if z256.1 = z257.1 then
                                                                          f_L_law_18 xs Ln  n z257.2 (l3 + 5)
                                                                        else
                                                                          some 0
                                                                      else
                                                                        if (v2 &&& 63) = 33 then
                                                                          Option.bind (f_X7_on M ) fun z260 =>
                                                                          Option.bind (f_X8_on z260.2 ) fun z261 =>
                                                                          if z260.1 = z261.1 then
                                                                            f_L_law_18 xs Ln  n z261.2 (l3 + 5)
                                                                          else
                                                                            some 0
                                                                        else
                                                                          if (v2 &&& 63) = 34 then
                                                                            Option.bind (rds Ln xs (l3 + 1)) fun v264 =>
                                                                            Option.bind (f_X7_count M v264) fun z265 =>
                                                                            Option.bind (rds Ln xs (l3 + 1)) fun v266 =>
                                                                            Option.bind (f_X8_count z265.2 v266) fun z267 =>
                                                                            if z265.1 = z267.1 then
                                                                              f_L_law_18 xs Ln  n z267.2 (l3 + 5)
                                                                            else
                                                                              some 0
                                                                          else
                                                                            f_L_law_18 xs Ln  n M (l3 + 5)
set_option maxRecDepth 20000 in
theorem m_L_law_18 {k : KT} {q : Int32} (xs : Nat → Int32) (Ln : Nat) {b : Nat} (hX : LX k b Ln xs) (hk : CX k cL_law RL 4 ret 613) (hq : RW k q) : ∀ (n : Nat) (M : Mem) (l3 : Int32) , GG k q (wM k M) 18 [(0, .ref b), (1, .ref (kh k + 0)), (2, .ref (kh k + 163)), (3, .int l3)] [] (f_L_law_18 xs Ln  n M l3) := by
  intro n
  induction n with
  | zero => intros; exact GG_none
  | succ n ih =>
    intro M l3 
    rw [f_L_law_18]
    refine GG_iload_n hk (pc' := 19) 3 dL_law_18 rfl rfl rfl ?_
    refine GG_aload_n hk (pc' := 20) 0 dL_law_19 rfl rfl rfl ?_
    refine GG_slen hk hX (pc' := 21) dL_law_20 rfl ?_
    refine GG_iconst hk (pc' := 22) 5 dL_law_21 rfl rfl ?_
    refine GG_isub hk (pc' := 23) dL_law_22 rfl ?_
    refine GG_icmp_gt hk 1281 (pc' := 26) dL_law_23 rfl (by decide) (fun c1 => ?_) (fun c1 => ?_)
    · refine GG_iconst hk (pc' := 1282) 1 dL_law_1281 rfl rfl ?_
      exact GG_lawret hk hq dL_law_1282
    · refine GG_aload_n hk (pc' := 27) 0 dL_law_26 rfl rfl rfl ?_
      refine GG_iload_n hk (pc' := 28) 3 dL_law_27 rfl rfl rfl ?_
      refine GG_sld hk hX (pc' := 29) dL_law_28 rfl (fun v2 e_v2 => ?_)
      refine GG_bipush hk (pc' := 31) 63 dL_law_29 rfl rfl ?_
      refine GG_iand hk (pc' := 32) dL_law_31 rfl ?_
      refine GG_if (fun c3 => ?_) (fun c3 => ?_)
      · refine GG_tabIn hk 188 0 c3 dL_law_32 (by decide) (by decide) rfl (by decide) ?_
        refine GG_aload_n hk (pc' := 189) 1 dL_law_188 rfl rfl rfl ?_
        refine GG_aload_n hk (pc' := 190) 0 dL_law_189 rfl rfl rfl ?_
        refine GG_iload_n hk (pc' := 191) 3 dL_law_190 rfl rfl rfl ?_
        refine GG_iconst hk (pc' := 192) 1 dL_law_191 rfl rfl ?_
        refine GG_iadd hk (pc' := 193) dL_law_192 rfl ?_
        refine GG_sld hk hX (pc' := 194) dL_law_193 rfl (fun v4 e_v4 => ?_)
        refine GG_callVi hk (st := []) (pc' := 197) mf_X7_letter mv_X7_letter LC7 rfl (c_X7_letter _ _ _ M v4 ) (by omega) tw_329 rfl rfl rfl (Nat.le_of_ble_eq_true rfl) dL_law_194 rfl (fun z5 e_z5 => ?_)
        refine GG_aload_n hk (pc' := 198) 2 dL_law_197 rfl rfl rfl ?_
        refine GG_aload_n hk (pc' := 199) 0 dL_law_198 rfl rfl rfl ?_
        refine GG_iload_n hk (pc' := 200) 3 dL_law_199 rfl rfl rfl ?_
        refine GG_iconst hk (pc' := 201) 1 dL_law_200 rfl rfl ?_
        refine GG_iadd hk (pc' := 202) dL_law_201 rfl ?_
        refine GG_sld hk hX (pc' := 203) dL_law_202 rfl (fun v6 e_v6 => ?_)
        refine GG_callVi hk (st := [.int z5.1]) (pc' := 206) mf_X8_letter mv_X8_letter LC8 rfl (c_X8_letter _ _ _ z5.2 v6 ) (by omega) tw_1000 rfl rfl rfl (Nat.le_of_ble_eq_true rfl) dL_law_203 rfl (fun z7 e_z7 => ?_)
        refine GG_icmp_eq hk 1275 (pc' := 209) dL_law_206 rfl (by decide) (fun c8 => ?_) (fun c8 => ?_)
        · refine GG_iinc hk (pc' := 1278) 3 (l3 + 5) [(3, .int (l3 + 5)), (0, .ref b), (1, .ref (kh k + 0)), (2, .ref (kh k + 163))] dL_law_1275 rfl rfl rfl (by decide) rfl ?_
          refine GG_goto hk 18 dL_law_1278 (by decide) ?_
          refine GG_sub (L' := [(0, .ref b), (1, .ref (kh k + 0)), (2, .ref (kh k + 163)), (3, .int (l3 + 5))]) [1, 2, 3, 0] rfl ?_
          exact ih z7.2 (l3 + 5) 
        · refine GG_iconst hk (pc' := 210) 0 dL_law_209 rfl rfl ?_
          exact GG_lawret hk hq dL_law_210
      · refine GG_if (fun c9 => ?_) (fun c9 => ?_)
        · refine GG_tabIn hk 211 1 c9 dL_law_32 (by decide) (by decide) rfl (by decide) ?_
          refine GG_aload_n hk (pc' := 212) 1 dL_law_211 rfl rfl rfl ?_
          refine GG_callVi hk (st := []) (pc' := 215) mf_X7_settings mv_X7_settings LC7 rfl (c_X7_settings _ _ _ M  ) (by omega) tw_341 rfl rfl rfl (Nat.le_of_ble_eq_true rfl) dL_law_212 rfl (fun z10 e_z10 => ?_)
          refine GG_aload_n hk (pc' := 216) 2 dL_law_215 rfl rfl rfl ?_
          refine GG_callVi hk (st := [.int z10.1]) (pc' := 219) mf_X8_settings mv_X8_settings LC8 rfl (c_X8_settings _ _ _ z10.2  ) (by omega) tw_1004 rfl rfl rfl (Nat.le_of_ble_eq_true rfl) dL_law_216 rfl (fun z11 e_z11 => ?_)
          refine GG_icmp_eq hk 1275 (pc' := 222) dL_law_219 rfl (by decide) (fun c12 => ?_) (fun c12 => ?_)
          · refine GG_iinc hk (pc' := 1278) 3 (l3 + 5) [(3, .int (l3 + 5)), (0, .ref b), (1, .ref (kh k + 0)), (2, .ref (kh k + 163))] dL_law_1275 rfl rfl rfl (by decide) rfl ?_
            refine GG_goto hk 18 dL_law_1278 (by decide) ?_
            refine GG_sub (L' := [(0, .ref b), (1, .ref (kh k + 0)), (2, .ref (kh k + 163)), (3, .int (l3 + 5))]) [1, 2, 3, 0] rfl ?_
            exact ih z11.2 (l3 + 5) 
          · refine GG_iconst hk (pc' := 223) 0 dL_law_222 rfl rfl ?_
            exact GG_lawret hk hq dL_law_223
        · refine GG_if (fun c13 => ?_) (fun c13 => ?_)
          · refine GG_tabIn hk 224 2 c13 dL_law_32 (by decide) (by decide) rfl (by decide) ?_
            refine GG_aload_n hk (pc' := 225) 1 dL_law_224 rfl rfl rfl ?_
            refine GG_aload_n hk (pc' := 226) 0 dL_law_225 rfl rfl rfl ?_
            refine GG_iload_n hk (pc' := 227) 3 dL_law_226 rfl rfl rfl ?_
            refine GG_iconst hk (pc' := 228) 1 dL_law_227 rfl rfl ?_
            refine GG_iadd hk (pc' := 229) dL_law_228 rfl ?_
            refine GG_sld hk hX (pc' := 230) dL_law_229 rfl (fun v14 e_v14 => ?_)
            refine GG_callVi hk (st := []) (pc' := 233) mf_X7_turns mv_X7_turns LC7 rfl (c_X7_turns _ _ _ M v14 ) (by omega) tw_476 rfl rfl rfl (Nat.le_of_ble_eq_true rfl) dL_law_230 rfl (fun z15 e_z15 => ?_)
            refine GG_aload_n hk (pc' := 234) 2 dL_law_233 rfl rfl rfl ?_
            refine GG_aload_n hk (pc' := 235) 0 dL_law_234 rfl rfl rfl ?_
            refine GG_iload_n hk (pc' := 236) 3 dL_law_235 rfl rfl rfl ?_
            refine GG_iconst hk (pc' := 237) 1 dL_law_236 rfl rfl ?_
            refine GG_iadd hk (pc' := 238) dL_law_237 rfl ?_
            refine GG_sld hk hX (pc' := 239) dL_law_238 rfl (fun v16 e_v16 => ?_)
            refine GG_callVi hk (st := [.int z15.1]) (pc' := 242) mf_X8_turns mv_X8_turns LC8 rfl (c_X8_turns _ _ _ z15.2 v16 ) (by omega) tw_928 rfl rfl rfl (Nat.le_of_ble_eq_true rfl) dL_law_239 rfl (fun z17 e_z17 => ?_)
            refine GG_icmp_eq hk 1275 (pc' := 245) dL_law_242 rfl (by decide) (fun c18 => ?_) (fun c18 => ?_)
            · refine GG_iinc hk (pc' := 1278) 3 (l3 + 5) [(3, .int (l3 + 5)), (0, .ref b), (1, .ref (kh k + 0)), (2, .ref (kh k + 163))] dL_law_1275 rfl rfl rfl (by decide) rfl ?_
              refine GG_goto hk 18 dL_law_1278 (by decide) ?_
              refine GG_sub (L' := [(0, .ref b), (1, .ref (kh k + 0)), (2, .ref (kh k + 163)), (3, .int (l3 + 5))]) [1, 2, 3, 0] rfl ?_
              exact ih z17.2 (l3 + 5) 
            · refine GG_iconst hk (pc' := 246) 0 dL_law_245 rfl rfl ?_
              exact GG_lawret hk hq dL_law_246
          · refine GG_if (fun c19 => ?_) (fun c19 => ?_)
            · refine GG_tabIn hk 247 3 c19 dL_law_32 (by decide) (by decide) rfl (by decide) ?_
              refine GG_aload_n hk (pc' := 248) 1 dL_law_247 rfl rfl rfl ?_
              refine GG_aload_n hk (pc' := 249) 0 dL_law_248 rfl rfl rfl ?_
              refine GG_iload_n hk (pc' := 250) 3 dL_law_249 rfl rfl rfl ?_
              refine GG_iconst hk (pc' := 251) 1 dL_law_250 rfl rfl ?_
              refine GG_iadd hk (pc' := 252) dL_law_251 rfl ?_
              refine GG_sld hk hX (pc' := 253) dL_law_252 rfl (fun v20 e_v20 => ?_)
              refine GG_aload_n hk (pc' := 254) 0 dL_law_253 rfl rfl rfl ?_
              refine GG_iload_n hk (pc' := 255) 3 dL_law_254 rfl rfl rfl ?_
              refine GG_iconst hk (pc' := 256) 2 dL_law_255 rfl rfl ?_
              refine GG_iadd hk (pc' := 257) dL_law_256 rfl ?_
              refine GG_sld hk hX (pc' := 258) dL_law_257 rfl (fun v21 e_v21 => ?_)
              refine GG_aload_n hk (pc' := 259) 0 dL_law_258 rfl rfl rfl ?_
              refine GG_iload_n hk (pc' := 260) 3 dL_law_259 rfl rfl rfl ?_
              refine GG_iconst hk (pc' := 261) 3 dL_law_260 rfl rfl ?_
              refine GG_iadd hk (pc' := 262) dL_law_261 rfl ?_
              refine GG_sld hk hX (pc' := 263) dL_law_262 rfl (fun v22 e_v22 => ?_)
              refine GG_callVi hk (st := []) (pc' := 266) mf_X7_kind mv_X7_kind LC7 rfl (c_X7_kind _ _ _ M v20 v21 v22 ) (by omega) tw_486 rfl rfl rfl (Nat.le_of_ble_eq_true rfl) dL_law_263 rfl (fun z23 e_z23 => ?_)
              refine GG_aload_n hk (pc' := 267) 2 dL_law_266 rfl rfl rfl ?_
              refine GG_aload_n hk (pc' := 268) 0 dL_law_267 rfl rfl rfl ?_
              refine GG_iload_n hk (pc' := 269) 3 dL_law_268 rfl rfl rfl ?_
              refine GG_iconst hk (pc' := 270) 1 dL_law_269 rfl rfl ?_
              refine GG_iadd hk (pc' := 271) dL_law_270 rfl ?_
              refine GG_sld hk hX (pc' := 272) dL_law_271 rfl (fun v24 e_v24 => ?_)
              refine GG_aload_n hk (pc' := 273) 0 dL_law_272 rfl rfl rfl ?_
              refine GG_iload_n hk (pc' := 274) 3 dL_law_273 rfl rfl rfl ?_
              refine GG_iconst hk (pc' := 275) 2 dL_law_274 rfl rfl ?_
              refine GG_iadd hk (pc' := 276) dL_law_275 rfl ?_
              refine GG_sld hk hX (pc' := 277) dL_law_276 rfl (fun v25 e_v25 => ?_)
              refine GG_aload_n hk (pc' := 278) 0 dL_law_277 rfl rfl rfl ?_
              refine GG_iload_n hk (pc' := 279) 3 dL_law_278 rfl rfl rfl ?_
              refine GG_iconst hk (pc' := 280) 3 dL_law_279 rfl rfl ?_
              refine GG_iadd hk (pc' := 281) dL_law_280 rfl ?_
              refine GG_sld hk hX (pc' := 282) dL_law_281 rfl (fun v26 e_v26 => ?_)
              refine GG_callVi hk (st := [.int z23.1]) (pc' := 285) mf_X8_kind mv_X8_kind LC8 rfl (c_X8_kind _ _ _ z23.2 v24 v25 v26 ) (by omega) tw_942 rfl rfl rfl (Nat.le_of_ble_eq_true rfl) dL_law_282 rfl (fun z27 e_z27 => ?_)
              refine GG_icmp_eq hk 1275 (pc' := 288) dL_law_285 rfl (by decide) (fun c28 => ?_) (fun c28 => ?_)
              · refine GG_iinc hk (pc' := 1278) 3 (l3 + 5) [(3, .int (l3 + 5)), (0, .ref b), (1, .ref (kh k + 0)), (2, .ref (kh k + 163))] dL_law_1275 rfl rfl rfl (by decide) rfl ?_
                refine GG_goto hk 18 dL_law_1278 (by decide) ?_
                refine GG_sub (L' := [(0, .ref b), (1, .ref (kh k + 0)), (2, .ref (kh k + 163)), (3, .int (l3 + 5))]) [1, 2, 3, 0] rfl ?_
                exact ih z27.2 (l3 + 5) 
              · refine GG_iconst hk (pc' := 289) 0 dL_law_288 rfl rfl ?_
                exact GG_lawret hk hq dL_law_289
            · refine GG_if (fun c29 => ?_) (fun c29 => ?_)
              · refine GG_tabIn hk 290 4 c29 dL_law_32 (by decide) (by decide) rfl (by decide) ?_
                refine GG_aload_n hk (pc' := 291) 1 dL_law_290 rfl rfl rfl ?_
                refine GG_aload_n hk (pc' := 292) 0 dL_law_291 rfl rfl rfl ?_
                refine GG_iload_n hk (pc' := 293) 3 dL_law_292 rfl rfl rfl ?_
                refine GG_iconst hk (pc' := 294) 1 dL_law_293 rfl rfl ?_
                refine GG_iadd hk (pc' := 295) dL_law_294 rfl ?_
                refine GG_sld hk hX (pc' := 296) dL_law_295 rfl (fun v30 e_v30 => ?_)
                refine GG_aload_n hk (pc' := 297) 0 dL_law_296 rfl rfl rfl ?_
                refine GG_iload_n hk (pc' := 298) 3 dL_law_297 rfl rfl rfl ?_
                refine GG_iconst hk (pc' := 299) 2 dL_law_298 rfl rfl ?_
                refine GG_iadd hk (pc' := 300) dL_law_299 rfl ?_
                refine GG_sld hk hX (pc' := 301) dL_law_300 rfl (fun v31 e_v31 => ?_)
                refine GG_callVi hk (st := []) (pc' := 304) mf_X7_manner mv_X7_manner LC7 rfl (c_X7_manner _ _ _ M v30 v31 ) (by omega) tw_494 rfl rfl rfl (Nat.le_of_ble_eq_true rfl) dL_law_301 rfl (fun z32 e_z32 => ?_)
                refine GG_aload_n hk (pc' := 305) 2 dL_law_304 rfl rfl rfl ?_
                refine GG_aload_n hk (pc' := 306) 0 dL_law_305 rfl rfl rfl ?_
                refine GG_iload_n hk (pc' := 307) 3 dL_law_306 rfl rfl rfl ?_
                refine GG_iconst hk (pc' := 308) 1 dL_law_307 rfl rfl ?_
                refine GG_iadd hk (pc' := 309) dL_law_308 rfl ?_
                refine GG_sld hk hX (pc' := 310) dL_law_309 rfl (fun v33 e_v33 => ?_)
                refine GG_aload_n hk (pc' := 311) 0 dL_law_310 rfl rfl rfl ?_
                refine GG_iload_n hk (pc' := 312) 3 dL_law_311 rfl rfl rfl ?_
                refine GG_iconst hk (pc' := 313) 2 dL_law_312 rfl rfl ?_
                refine GG_iadd hk (pc' := 314) dL_law_313 rfl ?_
                refine GG_sld hk hX (pc' := 315) dL_law_314 rfl (fun v34 e_v34 => ?_)
                refine GG_callVi hk (st := [.int z32.1]) (pc' := 318) mf_X8_manner mv_X8_manner LC8 rfl (c_X8_manner _ _ _ z32.2 v33 v34 ) (by omega) tw_946 rfl rfl rfl (Nat.le_of_ble_eq_true rfl) dL_law_315 rfl (fun z35 e_z35 => ?_)
                refine GG_icmp_eq hk 1275 (pc' := 321) dL_law_318 rfl (by decide) (fun c36 => ?_) (fun c36 => ?_)
                · refine GG_iinc hk (pc' := 1278) 3 (l3 + 5) [(3, .int (l3 + 5)), (0, .ref b), (1, .ref (kh k + 0)), (2, .ref (kh k + 163))] dL_law_1275 rfl rfl rfl (by decide) rfl ?_
                  refine GG_goto hk 18 dL_law_1278 (by decide) ?_
                  refine GG_sub (L' := [(0, .ref b), (1, .ref (kh k + 0)), (2, .ref (kh k + 163)), (3, .int (l3 + 5))]) [1, 2, 3, 0] rfl ?_
                  exact ih z35.2 (l3 + 5) 
                · refine GG_iconst hk (pc' := 322) 0 dL_law_321 rfl rfl ?_
                  exact GG_lawret hk hq dL_law_322
              · refine GG_if (fun c37 => ?_) (fun c37 => ?_)
                · refine GG_tabIn hk 323 5 c37 dL_law_32 (by decide) (by decide) rfl (by decide) ?_
                  refine GG_aload_n hk (pc' := 324) 1 dL_law_323 rfl rfl rfl ?_
                  refine GG_aload_n hk (pc' := 325) 0 dL_law_324 rfl rfl rfl ?_
                  refine GG_iload_n hk (pc' := 326) 3 dL_law_325 rfl rfl rfl ?_
                  refine GG_iconst hk (pc' := 327) 1 dL_law_326 rfl rfl ?_
                  refine GG_iadd hk (pc' := 328) dL_law_327 rfl ?_
                  refine GG_sld hk hX (pc' := 329) dL_law_328 rfl (fun v38 e_v38 => ?_)
                  refine GG_aload_n hk (pc' := 330) 0 dL_law_329 rfl rfl rfl ?_
                  refine GG_iload_n hk (pc' := 331) 3 dL_law_330 rfl rfl rfl ?_
                  refine GG_iconst hk (pc' := 332) 2 dL_law_331 rfl rfl ?_
                  refine GG_iadd hk (pc' := 333) dL_law_332 rfl ?_
                  refine GG_sld hk hX (pc' := 334) dL_law_333 rfl (fun v39 e_v39 => ?_)
                  refine GG_aload_n hk (pc' := 335) 0 dL_law_334 rfl rfl rfl ?_
                  refine GG_iload_n hk (pc' := 336) 3 dL_law_335 rfl rfl rfl ?_
                  refine GG_iconst hk (pc' := 337) 3 dL_law_336 rfl rfl ?_
                  refine GG_iadd hk (pc' := 338) dL_law_337 rfl ?_
                  refine GG_sld hk hX (pc' := 339) dL_law_338 rfl (fun v40 e_v40 => ?_)
                  refine GG_callVi hk (st := []) (pc' := 342) mf_X7_sets mv_X7_sets LC7 rfl (c_X7_sets _ _ _ M v38 v39 v40 ) (by omega) tw_499 rfl rfl rfl (Nat.le_of_ble_eq_true rfl) dL_law_339 rfl (fun z41 e_z41 => ?_)
                  refine GG_aload_n hk (pc' := 343) 2 dL_law_342 rfl rfl rfl ?_
                  refine GG_aload_n hk (pc' := 344) 0 dL_law_343 rfl rfl rfl ?_
                  refine GG_iload_n hk (pc' := 345) 3 dL_law_344 rfl rfl rfl ?_
                  refine GG_iconst hk (pc' := 346) 1 dL_law_345 rfl rfl ?_
                  refine GG_iadd hk (pc' := 347) dL_law_346 rfl ?_
                  refine GG_sld hk hX (pc' := 348) dL_law_347 rfl (fun v42 e_v42 => ?_)
                  refine GG_aload_n hk (pc' := 349) 0 dL_law_348 rfl rfl rfl ?_
                  refine GG_iload_n hk (pc' := 350) 3 dL_law_349 rfl rfl rfl ?_
                  refine GG_iconst hk (pc' := 351) 2 dL_law_350 rfl rfl ?_
                  refine GG_iadd hk (pc' := 352) dL_law_351 rfl ?_
                  refine GG_sld hk hX (pc' := 353) dL_law_352 rfl (fun v43 e_v43 => ?_)
                  refine GG_aload_n hk (pc' := 354) 0 dL_law_353 rfl rfl rfl ?_
                  refine GG_iload_n hk (pc' := 355) 3 dL_law_354 rfl rfl rfl ?_
                  refine GG_iconst hk (pc' := 356) 3 dL_law_355 rfl rfl ?_
                  refine GG_iadd hk (pc' := 357) dL_law_356 rfl ?_
                  refine GG_sld hk hX (pc' := 358) dL_law_357 rfl (fun v44 e_v44 => ?_)
                  refine GG_callVi hk (st := [.int z41.1]) (pc' := 361) mf_X8_sets mv_X8_sets LC8 rfl (c_X8_sets _ _ _ z41.2 v42 v43 v44 ) (by omega) tw_953 rfl rfl rfl (Nat.le_of_ble_eq_true rfl) dL_law_358 rfl (fun z45 e_z45 => ?_)
                  refine GG_icmp_eq hk 1275 (pc' := 364) dL_law_361 rfl (by decide) (fun c46 => ?_) (fun c46 => ?_)
                  · refine GG_iinc hk (pc' := 1278) 3 (l3 + 5) [(3, .int (l3 + 5)), (0, .ref b), (1, .ref (kh k + 0)), (2, .ref (kh k + 163))] dL_law_1275 rfl rfl rfl (by decide) rfl ?_
                    refine GG_goto hk 18 dL_law_1278 (by decide) ?_
                    refine GG_sub (L' := [(0, .ref b), (1, .ref (kh k + 0)), (2, .ref (kh k + 163)), (3, .int (l3 + 5))]) [1, 2, 3, 0] rfl ?_
                    exact ih z45.2 (l3 + 5) 
                  · refine GG_iconst hk (pc' := 365) 0 dL_law_364 rfl rfl ?_
                    exact GG_lawret hk hq dL_law_365
                · refine GG_if (fun c47 => ?_) (fun c47 => ?_)
                  · refine GG_tabIn hk 366 6 c47 dL_law_32 (by decide) (by decide) rfl (by decide) ?_
                    refine GG_aload_n hk (pc' := 367) 1 dL_law_366 rfl rfl rfl ?_
                    refine GG_aload_n hk (pc' := 368) 0 dL_law_367 rfl rfl rfl ?_
                    refine GG_iload_n hk (pc' := 369) 3 dL_law_368 rfl rfl rfl ?_
                    refine GG_iconst hk (pc' := 370) 1 dL_law_369 rfl rfl ?_
                    refine GG_iadd hk (pc' := 371) dL_law_370 rfl ?_
                    refine GG_sld hk hX (pc' := 372) dL_law_371 rfl (fun v48 e_v48 => ?_)
                    refine GG_aload_n hk (pc' := 373) 0 dL_law_372 rfl rfl rfl ?_
                    refine GG_iload_n hk (pc' := 374) 3 dL_law_373 rfl rfl rfl ?_
                    refine GG_iconst hk (pc' := 375) 2 dL_law_374 rfl rfl ?_
                    refine GG_iadd hk (pc' := 376) dL_law_375 rfl ?_
                    refine GG_sld hk hX (pc' := 377) dL_law_376 rfl (fun v49 e_v49 => ?_)
                    refine GG_aload_n hk (pc' := 378) 0 dL_law_377 rfl rfl rfl ?_
                    refine GG_iload_n hk (pc' := 379) 3 dL_law_378 rfl rfl rfl ?_
                    refine GG_iconst hk (pc' := 380) 3 dL_law_379 rfl rfl ?_
                    refine GG_iadd hk (pc' := 381) dL_law_380 rfl ?_
                    refine GG_sld hk hX (pc' := 382) dL_law_381 rfl (fun v50 e_v50 => ?_)
                    refine GG_aload_n hk (pc' := 383) 0 dL_law_382 rfl rfl rfl ?_
                    refine GG_iload_n hk (pc' := 384) 3 dL_law_383 rfl rfl rfl ?_
                    refine GG_iconst hk (pc' := 385) 4 dL_law_384 rfl rfl ?_
                    refine GG_iadd hk (pc' := 386) dL_law_385 rfl ?_
                    refine GG_sld hk hX (pc' := 387) dL_law_386 rfl (fun v51 e_v51 => ?_)
                    refine GG_callVi hk (st := []) (pc' := 390) mf_X7_adds mv_X7_adds LC7 rfl (c_X7_adds _ _ _ M v48 v49 v50 v51 ) (by omega) tw_509 rfl rfl rfl (Nat.le_of_ble_eq_true rfl) dL_law_387 rfl (fun z52 e_z52 => ?_)
                    refine GG_aload_n hk (pc' := 391) 2 dL_law_390 rfl rfl rfl ?_
                    refine GG_aload_n hk (pc' := 392) 0 dL_law_391 rfl rfl rfl ?_
                    refine GG_iload_n hk (pc' := 393) 3 dL_law_392 rfl rfl rfl ?_
                    refine GG_iconst hk (pc' := 394) 1 dL_law_393 rfl rfl ?_
                    refine GG_iadd hk (pc' := 395) dL_law_394 rfl ?_
                    refine GG_sld hk hX (pc' := 396) dL_law_395 rfl (fun v53 e_v53 => ?_)
                    refine GG_aload_n hk (pc' := 397) 0 dL_law_396 rfl rfl rfl ?_
                    refine GG_iload_n hk (pc' := 398) 3 dL_law_397 rfl rfl rfl ?_
                    refine GG_iconst hk (pc' := 399) 2 dL_law_398 rfl rfl ?_
                    refine GG_iadd hk (pc' := 400) dL_law_399 rfl ?_
                    refine GG_sld hk hX (pc' := 401) dL_law_400 rfl (fun v54 e_v54 => ?_)
                    refine GG_aload_n hk (pc' := 402) 0 dL_law_401 rfl rfl rfl ?_
                    refine GG_iload_n hk (pc' := 403) 3 dL_law_402 rfl rfl rfl ?_
                    refine GG_iconst hk (pc' := 404) 3 dL_law_403 rfl rfl ?_
                    refine GG_iadd hk (pc' := 405) dL_law_404 rfl ?_
                    refine GG_sld hk hX (pc' := 406) dL_law_405 rfl (fun v55 e_v55 => ?_)
                    refine GG_aload_n hk (pc' := 407) 0 dL_law_406 rfl rfl rfl ?_
                    refine GG_iload_n hk (pc' := 408) 3 dL_law_407 rfl rfl rfl ?_
                    refine GG_iconst hk (pc' := 409) 4 dL_law_408 rfl rfl ?_
                    refine GG_iadd hk (pc' := 410) dL_law_409 rfl ?_
                    refine GG_sld hk hX (pc' := 411) dL_law_410 rfl (fun v56 e_v56 => ?_)
                    refine GG_callVi hk (st := [.int z52.1]) (pc' := 414) mf_X8_adds mv_X8_adds LC8 rfl (c_X8_adds _ _ _ z52.2 v53 v54 v55 v56 ) (by omega) tw_964 rfl rfl rfl (Nat.le_of_ble_eq_true rfl) dL_law_411 rfl (fun z57 e_z57 => ?_)
                    refine GG_icmp_eq hk 1275 (pc' := 417) dL_law_414 rfl (by decide) (fun c58 => ?_) (fun c58 => ?_)
                    · refine GG_iinc hk (pc' := 1278) 3 (l3 + 5) [(3, .int (l3 + 5)), (0, .ref b), (1, .ref (kh k + 0)), (2, .ref (kh k + 163))] dL_law_1275 rfl rfl rfl (by decide) rfl ?_
                      refine GG_goto hk 18 dL_law_1278 (by decide) ?_
                      refine GG_sub (L' := [(0, .ref b), (1, .ref (kh k + 0)), (2, .ref (kh k + 163)), (3, .int (l3 + 5))]) [1, 2, 3, 0] rfl ?_
                      exact ih z57.2 (l3 + 5) 
                    · refine GG_iconst hk (pc' := 418) 0 dL_law_417 rfl rfl ?_
                      exact GG_lawret hk hq dL_law_418
                  · refine GG_if (fun c59 => ?_) (fun c59 => ?_)
                    · refine GG_tabIn hk 419 7 c59 dL_law_32 (by decide) (by decide) rfl (by decide) ?_
                      refine GG_aload_n hk (pc' := 420) 1 dL_law_419 rfl rfl rfl ?_
                      refine GG_aload_n hk (pc' := 421) 0 dL_law_420 rfl rfl rfl ?_
                      refine GG_iload_n hk (pc' := 422) 3 dL_law_421 rfl rfl rfl ?_
                      refine GG_iconst hk (pc' := 423) 1 dL_law_422 rfl rfl ?_
                      refine GG_iadd hk (pc' := 424) dL_law_423 rfl ?_
                      refine GG_sld hk hX (pc' := 425) dL_law_424 rfl (fun v60 e_v60 => ?_)
                      refine GG_aload_n hk (pc' := 426) 0 dL_law_425 rfl rfl rfl ?_
                      refine GG_iload_n hk (pc' := 427) 3 dL_law_426 rfl rfl rfl ?_
                      refine GG_iconst hk (pc' := 428) 2 dL_law_427 rfl rfl ?_
                      refine GG_iadd hk (pc' := 429) dL_law_428 rfl ?_
                      refine GG_sld hk hX (pc' := 430) dL_law_429 rfl (fun v61 e_v61 => ?_)
                      refine GG_aload_n hk (pc' := 431) 0 dL_law_430 rfl rfl rfl ?_
                      refine GG_iload_n hk (pc' := 432) 3 dL_law_431 rfl rfl rfl ?_
                      refine GG_iconst hk (pc' := 433) 3 dL_law_432 rfl rfl ?_
                      refine GG_iadd hk (pc' := 434) dL_law_433 rfl ?_
                      refine GG_sld hk hX (pc' := 435) dL_law_434 rfl (fun v62 e_v62 => ?_)
                      refine GG_aload_n hk (pc' := 436) 0 dL_law_435 rfl rfl rfl ?_
                      refine GG_iload_n hk (pc' := 437) 3 dL_law_436 rfl rfl rfl ?_
                      refine GG_iconst hk (pc' := 438) 4 dL_law_437 rfl rfl ?_
                      refine GG_iadd hk (pc' := 439) dL_law_438 rfl ?_
                      refine GG_sld hk hX (pc' := 440) dL_law_439 rfl (fun v63 e_v63 => ?_)
                      refine GG_callVi hk (st := []) (pc' := 443) mf_X7_refers mv_X7_refers LC7 rfl (c_X7_refers _ _ _ M v60 v61 v62 v63 ) (by omega) tw_518 rfl rfl rfl (Nat.le_of_ble_eq_true rfl) dL_law_440 rfl (fun z64 e_z64 => ?_)
                      refine GG_aload_n hk (pc' := 444) 2 dL_law_443 rfl rfl rfl ?_
                      refine GG_aload_n hk (pc' := 445) 0 dL_law_444 rfl rfl rfl ?_
                      refine GG_iload_n hk (pc' := 446) 3 dL_law_445 rfl rfl rfl ?_
                      refine GG_iconst hk (pc' := 447) 1 dL_law_446 rfl rfl ?_
                      refine GG_iadd hk (pc' := 448) dL_law_447 rfl ?_
                      refine GG_sld hk hX (pc' := 449) dL_law_448 rfl (fun v65 e_v65 => ?_)
                      refine GG_aload_n hk (pc' := 450) 0 dL_law_449 rfl rfl rfl ?_
                      refine GG_iload_n hk (pc' := 451) 3 dL_law_450 rfl rfl rfl ?_
                      refine GG_iconst hk (pc' := 452) 2 dL_law_451 rfl rfl ?_
                      refine GG_iadd hk (pc' := 453) dL_law_452 rfl ?_
                      refine GG_sld hk hX (pc' := 454) dL_law_453 rfl (fun v66 e_v66 => ?_)
                      refine GG_aload_n hk (pc' := 455) 0 dL_law_454 rfl rfl rfl ?_
                      refine GG_iload_n hk (pc' := 456) 3 dL_law_455 rfl rfl rfl ?_
                      refine GG_iconst hk (pc' := 457) 3 dL_law_456 rfl rfl ?_
                      refine GG_iadd hk (pc' := 458) dL_law_457 rfl ?_
                      refine GG_sld hk hX (pc' := 459) dL_law_458 rfl (fun v67 e_v67 => ?_)
                      refine GG_aload_n hk (pc' := 460) 0 dL_law_459 rfl rfl rfl ?_
                      refine GG_iload_n hk (pc' := 461) 3 dL_law_460 rfl rfl rfl ?_
                      refine GG_iconst hk (pc' := 462) 4 dL_law_461 rfl rfl ?_
                      refine GG_iadd hk (pc' := 463) dL_law_462 rfl ?_
                      refine GG_sld hk hX (pc' := 464) dL_law_463 rfl (fun v68 e_v68 => ?_)
                      refine GG_callVi hk (st := [.int z64.1]) (pc' := 467) mf_X8_refers mv_X8_refers LC8 rfl (c_X8_refers _ _ _ z64.2 v65 v66 v67 v68 ) (by omega) tw_980 rfl rfl rfl (Nat.le_of_ble_eq_true rfl) dL_law_464 rfl (fun z69 e_z69 => ?_)
                      refine GG_icmp_eq hk 1275 (pc' := 470) dL_law_467 rfl (by decide) (fun c70 => ?_) (fun c70 => ?_)
                      · refine GG_iinc hk (pc' := 1278) 3 (l3 + 5) [(3, .int (l3 + 5)), (0, .ref b), (1, .ref (kh k + 0)), (2, .ref (kh k + 163))] dL_law_1275 rfl rfl rfl (by decide) rfl ?_
                        refine GG_goto hk 18 dL_law_1278 (by decide) ?_
                        refine GG_sub (L' := [(0, .ref b), (1, .ref (kh k + 0)), (2, .ref (kh k + 163)), (3, .int (l3 + 5))]) [1, 2, 3, 0] rfl ?_
                        exact ih z69.2 (l3 + 5) 
                      · refine GG_iconst hk (pc' := 471) 0 dL_law_470 rfl rfl ?_
                        exact GG_lawret hk hq dL_law_471
                    · refine GG_if (fun c71 => ?_) (fun c71 => ?_)
                      · refine GG_tabIn hk 472 8 c71 dL_law_32 (by decide) (by decide) rfl (by decide) ?_
                        refine GG_aload_n hk (pc' := 473) 1 dL_law_472 rfl rfl rfl ?_
                        refine GG_aload_n hk (pc' := 474) 0 dL_law_473 rfl rfl rfl ?_
                        refine GG_iload_n hk (pc' := 475) 3 dL_law_474 rfl rfl rfl ?_
                        refine GG_iconst hk (pc' := 476) 1 dL_law_475 rfl rfl ?_
                        refine GG_iadd hk (pc' := 477) dL_law_476 rfl ?_
                        refine GG_sld hk hX (pc' := 478) dL_law_477 rfl (fun v72 e_v72 => ?_)
                        refine GG_aload_n hk (pc' := 479) 0 dL_law_478 rfl rfl rfl ?_
                        refine GG_iload_n hk (pc' := 480) 3 dL_law_479 rfl rfl rfl ?_
                        refine GG_iconst hk (pc' := 481) 2 dL_law_480 rfl rfl ?_
                        refine GG_iadd hk (pc' := 482) dL_law_481 rfl ?_
                        refine GG_sld hk hX (pc' := 483) dL_law_482 rfl (fun v73 e_v73 => ?_)
                        refine GG_callVi hk (st := []) (pc' := 486) mf_X7_gap mv_X7_gap LC7 rfl (c_X7_gap _ _ _ M v72 v73 ) (by omega) tw_522 rfl rfl rfl (Nat.le_of_ble_eq_true rfl) dL_law_483 rfl (fun z74 e_z74 => ?_)
                        refine GG_aload_n hk (pc' := 487) 2 dL_law_486 rfl rfl rfl ?_
                        refine GG_aload_n hk (pc' := 488) 0 dL_law_487 rfl rfl rfl ?_
                        refine GG_iload_n hk (pc' := 489) 3 dL_law_488 rfl rfl rfl ?_
                        refine GG_iconst hk (pc' := 490) 1 dL_law_489 rfl rfl ?_
                        refine GG_iadd hk (pc' := 491) dL_law_490 rfl ?_
                        refine GG_sld hk hX (pc' := 492) dL_law_491 rfl (fun v75 e_v75 => ?_)
                        refine GG_aload_n hk (pc' := 493) 0 dL_law_492 rfl rfl rfl ?_
                        refine GG_iload_n hk (pc' := 494) 3 dL_law_493 rfl rfl rfl ?_
                        refine GG_iconst hk (pc' := 495) 2 dL_law_494 rfl rfl ?_
                        refine GG_iadd hk (pc' := 496) dL_law_495 rfl ?_
                        refine GG_sld hk hX (pc' := 497) dL_law_496 rfl (fun v76 e_v76 => ?_)
                        refine GG_callVi hk (st := [.int z74.1]) (pc' := 500) mf_X8_gap mv_X8_gap LC8 rfl (c_X8_gap _ _ _ z74.2 v75 v76 ) (by omega) tw_985 rfl rfl rfl (Nat.le_of_ble_eq_true rfl) dL_law_497 rfl (fun z77 e_z77 => ?_)
                        refine GG_icmp_eq hk 1275 (pc' := 503) dL_law_500 rfl (by decide) (fun c78 => ?_) (fun c78 => ?_)
                        · refine GG_iinc hk (pc' := 1278) 3 (l3 + 5) [(3, .int (l3 + 5)), (0, .ref b), (1, .ref (kh k + 0)), (2, .ref (kh k + 163))] dL_law_1275 rfl rfl rfl (by decide) rfl ?_
                          refine GG_goto hk 18 dL_law_1278 (by decide) ?_
                          refine GG_sub (L' := [(0, .ref b), (1, .ref (kh k + 0)), (2, .ref (kh k + 163)), (3, .int (l3 + 5))]) [1, 2, 3, 0] rfl ?_
                          exact ih z77.2 (l3 + 5) 
                        · refine GG_iconst hk (pc' := 504) 0 dL_law_503 rfl rfl ?_
                          exact GG_lawret hk hq dL_law_504
                      · refine GG_if (fun c79 => ?_) (fun c79 => ?_)
                        · refine GG_tabIn hk 505 9 c79 dL_law_32 (by decide) (by decide) rfl (by decide) ?_
                          refine GG_aload_n hk (pc' := 506) 1 dL_law_505 rfl rfl rfl ?_
                          refine GG_aload_n hk (pc' := 507) 0 dL_law_506 rfl rfl rfl ?_
                          refine GG_iload_n hk (pc' := 508) 3 dL_law_507 rfl rfl rfl ?_
                          refine GG_iconst hk (pc' := 509) 1 dL_law_508 rfl rfl ?_
                          refine GG_iadd hk (pc' := 510) dL_law_509 rfl ?_
                          refine GG_sld hk hX (pc' := 511) dL_law_510 rfl (fun v80 e_v80 => ?_)
                          refine GG_aload_n hk (pc' := 512) 0 dL_law_511 rfl rfl rfl ?_
                          refine GG_iload_n hk (pc' := 513) 3 dL_law_512 rfl rfl rfl ?_
                          refine GG_iconst hk (pc' := 514) 2 dL_law_513 rfl rfl ?_
                          refine GG_iadd hk (pc' := 515) dL_law_514 rfl ?_
                          refine GG_sld hk hX (pc' := 516) dL_law_515 rfl (fun v81 e_v81 => ?_)
                          refine GG_callVi hk (st := []) (pc' := 519) mf_X7_drops mv_X7_drops LC7 rfl (c_X7_drops _ _ _ M v80 v81 ) (by omega) tw_526 rfl rfl rfl (Nat.le_of_ble_eq_true rfl) dL_law_516 rfl (fun z82 e_z82 => ?_)
                          refine GG_aload_n hk (pc' := 520) 2 dL_law_519 rfl rfl rfl ?_
                          refine GG_aload_n hk (pc' := 521) 0 dL_law_520 rfl rfl rfl ?_
                          refine GG_iload_n hk (pc' := 522) 3 dL_law_521 rfl rfl rfl ?_
                          refine GG_iconst hk (pc' := 523) 1 dL_law_522 rfl rfl ?_
                          refine GG_iadd hk (pc' := 524) dL_law_523 rfl ?_
                          refine GG_sld hk hX (pc' := 525) dL_law_524 rfl (fun v83 e_v83 => ?_)
                          refine GG_aload_n hk (pc' := 526) 0 dL_law_525 rfl rfl rfl ?_
                          refine GG_iload_n hk (pc' := 527) 3 dL_law_526 rfl rfl rfl ?_
                          refine GG_iconst hk (pc' := 528) 2 dL_law_527 rfl rfl ?_
                          refine GG_iadd hk (pc' := 529) dL_law_528 rfl ?_
                          refine GG_sld hk hX (pc' := 530) dL_law_529 rfl (fun v84 e_v84 => ?_)
                          refine GG_callVi hk (st := [.int z82.1]) (pc' := 533) mf_X8_drops mv_X8_drops LC8 rfl (c_X8_drops _ _ _ z82.2 v83 v84 ) (by omega) tw_989 rfl rfl rfl (Nat.le_of_ble_eq_true rfl) dL_law_530 rfl (fun z85 e_z85 => ?_)
                          refine GG_icmp_eq hk 1275 (pc' := 536) dL_law_533 rfl (by decide) (fun c86 => ?_) (fun c86 => ?_)
                          · refine GG_iinc hk (pc' := 1278) 3 (l3 + 5) [(3, .int (l3 + 5)), (0, .ref b), (1, .ref (kh k + 0)), (2, .ref (kh k + 163))] dL_law_1275 rfl rfl rfl (by decide) rfl ?_
                            refine GG_goto hk 18 dL_law_1278 (by decide) ?_
                            refine GG_sub (L' := [(0, .ref b), (1, .ref (kh k + 0)), (2, .ref (kh k + 163)), (3, .int (l3 + 5))]) [1, 2, 3, 0] rfl ?_
                            exact ih z85.2 (l3 + 5) 
                          · refine GG_iconst hk (pc' := 537) 0 dL_law_536 rfl rfl ?_
                            exact GG_lawret hk hq dL_law_537
                        · refine GG_if (fun c87 => ?_) (fun c87 => ?_)
                          · refine GG_tabIn hk 538 10 c87 dL_law_32 (by decide) (by decide) rfl (by decide) ?_
                            refine GG_aload_n hk (pc' := 539) 1 dL_law_538 rfl rfl rfl ?_
                            refine GG_aload_n hk (pc' := 540) 0 dL_law_539 rfl rfl rfl ?_
                            refine GG_iload_n hk (pc' := 541) 3 dL_law_540 rfl rfl rfl ?_
                            refine GG_iconst hk (pc' := 542) 1 dL_law_541 rfl rfl ?_
                            refine GG_iadd hk (pc' := 543) dL_law_542 rfl ?_
                            refine GG_sld hk hX (pc' := 544) dL_law_543 rfl (fun v88 e_v88 => ?_)
                            refine GG_aload_n hk (pc' := 545) 0 dL_law_544 rfl rfl rfl ?_
                            refine GG_iload_n hk (pc' := 546) 3 dL_law_545 rfl rfl rfl ?_
                            refine GG_iconst hk (pc' := 547) 2 dL_law_546 rfl rfl ?_
                            refine GG_iadd hk (pc' := 548) dL_law_547 rfl ?_
                            refine GG_sld hk hX (pc' := 549) dL_law_548 rfl (fun v89 e_v89 => ?_)
                            refine GG_callVi hk (st := []) (pc' := 552) mf_X7_layer mv_X7_layer LC7 rfl (c_X7_layer _ _ _ M v88 v89 ) (by omega) tw_546 rfl rfl rfl (Nat.le_of_ble_eq_true rfl) dL_law_549 rfl (fun z90 e_z90 => ?_)
                            refine GG_aload_n hk (pc' := 553) 2 dL_law_552 rfl rfl rfl ?_
                            refine GG_aload_n hk (pc' := 554) 0 dL_law_553 rfl rfl rfl ?_
                            refine GG_iload_n hk (pc' := 555) 3 dL_law_554 rfl rfl rfl ?_
                            refine GG_iconst hk (pc' := 556) 1 dL_law_555 rfl rfl ?_
                            refine GG_iadd hk (pc' := 557) dL_law_556 rfl ?_
                            refine GG_sld hk hX (pc' := 558) dL_law_557 rfl (fun v91 e_v91 => ?_)
                            refine GG_aload_n hk (pc' := 559) 0 dL_law_558 rfl rfl rfl ?_
                            refine GG_iload_n hk (pc' := 560) 3 dL_law_559 rfl rfl rfl ?_
                            refine GG_iconst hk (pc' := 561) 2 dL_law_560 rfl rfl ?_
                            refine GG_iadd hk (pc' := 562) dL_law_561 rfl ?_
                            refine GG_sld hk hX (pc' := 563) dL_law_562 rfl (fun v92 e_v92 => ?_)
                            refine GG_callVi hk (st := [.int z90.1]) (pc' := 566) mf_X8_layer mv_X8_layer LC8 rfl (c_X8_layer _ _ _ z90.2 v91 v92 ) (by omega) tw_1035 rfl rfl rfl (Nat.le_of_ble_eq_true rfl) dL_law_563 rfl (fun z93 e_z93 => ?_)
                            refine GG_icmp_eq hk 1275 (pc' := 569) dL_law_566 rfl (by decide) (fun c94 => ?_) (fun c94 => ?_)
                            · refine GG_iinc hk (pc' := 1278) 3 (l3 + 5) [(3, .int (l3 + 5)), (0, .ref b), (1, .ref (kh k + 0)), (2, .ref (kh k + 163))] dL_law_1275 rfl rfl rfl (by decide) rfl ?_
                              refine GG_goto hk 18 dL_law_1278 (by decide) ?_
                              refine GG_sub (L' := [(0, .ref b), (1, .ref (kh k + 0)), (2, .ref (kh k + 163)), (3, .int (l3 + 5))]) [1, 2, 3, 0] rfl ?_
                              exact ih z93.2 (l3 + 5) 
                            · refine GG_iconst hk (pc' := 570) 0 dL_law_569 rfl rfl ?_
                              exact GG_lawret hk hq dL_law_570
                          · refine GG_if (fun c95 => ?_) (fun c95 => ?_)
                            · refine GG_tabIn hk 571 11 c95 dL_law_32 (by decide) (by decide) rfl (by decide) ?_
                              refine GG_aload_n hk (pc' := 572) 1 dL_law_571 rfl rfl rfl ?_
                              refine GG_aload_n hk (pc' := 573) 0 dL_law_572 rfl rfl rfl ?_
                              refine GG_iload_n hk (pc' := 574) 3 dL_law_573 rfl rfl rfl ?_
                              refine GG_iconst hk (pc' := 575) 1 dL_law_574 rfl rfl ?_
                              refine GG_iadd hk (pc' := 576) dL_law_575 rfl ?_
                              refine GG_sld hk hX (pc' := 577) dL_law_576 rfl (fun v96 e_v96 => ?_)
                              refine GG_aload_n hk (pc' := 578) 0 dL_law_577 rfl rfl rfl ?_
                              refine GG_iload_n hk (pc' := 579) 3 dL_law_578 rfl rfl rfl ?_
                              refine GG_iconst hk (pc' := 580) 2 dL_law_579 rfl rfl ?_
                              refine GG_iadd hk (pc' := 581) dL_law_580 rfl ?_
                              refine GG_sld hk hX (pc' := 582) dL_law_581 rfl (fun v97 e_v97 => ?_)
                              refine GG_aload_n hk (pc' := 583) 0 dL_law_582 rfl rfl rfl ?_
                              refine GG_iload_n hk (pc' := 584) 3 dL_law_583 rfl rfl rfl ?_
                              refine GG_iconst hk (pc' := 585) 3 dL_law_584 rfl rfl ?_
                              refine GG_iadd hk (pc' := 586) dL_law_585 rfl ?_
                              refine GG_sld hk hX (pc' := 587) dL_law_586 rfl (fun v98 e_v98 => ?_)
                              refine GG_callVi hk (st := []) (pc' := 590) mf_X7_entry mv_X7_entry LC7 rfl (c_X7_entry _ _ _ M v96 v97 v98 ) (by omega) tw_555 rfl rfl rfl (Nat.le_of_ble_eq_true rfl) dL_law_587 rfl (fun z99 e_z99 => ?_)
                              refine GG_aload_n hk (pc' := 591) 2 dL_law_590 rfl rfl rfl ?_
                              refine GG_aload_n hk (pc' := 592) 0 dL_law_591 rfl rfl rfl ?_
                              refine GG_iload_n hk (pc' := 593) 3 dL_law_592 rfl rfl rfl ?_
                              refine GG_iconst hk (pc' := 594) 1 dL_law_593 rfl rfl ?_
                              refine GG_iadd hk (pc' := 595) dL_law_594 rfl ?_
                              refine GG_sld hk hX (pc' := 596) dL_law_595 rfl (fun v100 e_v100 => ?_)
                              refine GG_aload_n hk (pc' := 597) 0 dL_law_596 rfl rfl rfl ?_
                              refine GG_iload_n hk (pc' := 598) 3 dL_law_597 rfl rfl rfl ?_
                              refine GG_iconst hk (pc' := 599) 2 dL_law_598 rfl rfl ?_
                              refine GG_iadd hk (pc' := 600) dL_law_599 rfl ?_
                              refine GG_sld hk hX (pc' := 601) dL_law_600 rfl (fun v101 e_v101 => ?_)
                              refine GG_aload_n hk (pc' := 602) 0 dL_law_601 rfl rfl rfl ?_
                              refine GG_iload_n hk (pc' := 603) 3 dL_law_602 rfl rfl rfl ?_
                              refine GG_iconst hk (pc' := 604) 3 dL_law_603 rfl rfl ?_
                              refine GG_iadd hk (pc' := 605) dL_law_604 rfl ?_
                              refine GG_sld hk hX (pc' := 606) dL_law_605 rfl (fun v102 e_v102 => ?_)
                              refine GG_callVi hk (st := [.int z99.1]) (pc' := 609) mf_X8_entry_ mv_X8_entry_ LC8 rfl (c_X8_entry_ _ _ _ z99.2 v100 v101 v102 ) (by omega) tw_1047 rfl rfl rfl (Nat.le_of_ble_eq_true rfl) dL_law_606 rfl (fun z103 e_z103 => ?_)
                              refine GG_icmp_eq hk 1275 (pc' := 612) dL_law_609 rfl (by decide) (fun c104 => ?_) (fun c104 => ?_)
                              · refine GG_iinc hk (pc' := 1278) 3 (l3 + 5) [(3, .int (l3 + 5)), (0, .ref b), (1, .ref (kh k + 0)), (2, .ref (kh k + 163))] dL_law_1275 rfl rfl rfl (by decide) rfl ?_
                                refine GG_goto hk 18 dL_law_1278 (by decide) ?_
                                refine GG_sub (L' := [(0, .ref b), (1, .ref (kh k + 0)), (2, .ref (kh k + 163)), (3, .int (l3 + 5))]) [1, 2, 3, 0] rfl ?_
                                exact ih z103.2 (l3 + 5) 
                              · refine GG_iconst hk (pc' := 613) 0 dL_law_612 rfl rfl ?_
                                exact GG_lawret hk hq dL_law_613
                            · refine GG_if (fun c105 => ?_) (fun c105 => ?_)
                              · refine GG_tabIn hk 614 12 c105 dL_law_32 (by decide) (by decide) rfl (by decide) ?_
                                refine GG_aload_n hk (pc' := 615) 1 dL_law_614 rfl rfl rfl ?_
                                refine GG_aload_n hk (pc' := 616) 0 dL_law_615 rfl rfl rfl ?_
                                refine GG_iload_n hk (pc' := 617) 3 dL_law_616 rfl rfl rfl ?_
                                refine GG_iconst hk (pc' := 618) 1 dL_law_617 rfl rfl ?_
                                refine GG_iadd hk (pc' := 619) dL_law_618 rfl ?_
                                refine GG_sld hk hX (pc' := 620) dL_law_619 rfl (fun v106 e_v106 => ?_)
                                refine GG_aload_n hk (pc' := 621) 0 dL_law_620 rfl rfl rfl ?_
                                refine GG_iload_n hk (pc' := 622) 3 dL_law_621 rfl rfl rfl ?_
                                refine GG_iconst hk (pc' := 623) 2 dL_law_622 rfl rfl ?_
                                refine GG_iadd hk (pc' := 624) dL_law_623 rfl ?_
                                refine GG_sld hk hX (pc' := 625) dL_law_624 rfl (fun v107 e_v107 => ?_)
                                refine GG_callVi hk (st := []) (pc' := 628) mf_X7_value mv_X7_value LC7 rfl (c_X7_value _ _ _ M v106 v107 ) (by omega) tw_559 rfl rfl rfl (Nat.le_of_ble_eq_true rfl) dL_law_625 rfl (fun z108 e_z108 => ?_)
                                refine GG_aload_n hk (pc' := 629) 2 dL_law_628 rfl rfl rfl ?_
                                refine GG_aload_n hk (pc' := 630) 0 dL_law_629 rfl rfl rfl ?_
                                refine GG_iload_n hk (pc' := 631) 3 dL_law_630 rfl rfl rfl ?_
                                refine GG_iconst hk (pc' := 632) 1 dL_law_631 rfl rfl ?_
                                refine GG_iadd hk (pc' := 633) dL_law_632 rfl ?_
                                refine GG_sld hk hX (pc' := 634) dL_law_633 rfl (fun v109 e_v109 => ?_)
                                refine GG_aload_n hk (pc' := 635) 0 dL_law_634 rfl rfl rfl ?_
                                refine GG_iload_n hk (pc' := 636) 3 dL_law_635 rfl rfl rfl ?_
                                refine GG_iconst hk (pc' := 637) 2 dL_law_636 rfl rfl ?_
                                refine GG_iadd hk (pc' := 638) dL_law_637 rfl ?_
                                refine GG_sld hk hX (pc' := 639) dL_law_638 rfl (fun v110 e_v110 => ?_)
                                refine GG_callVi hk (st := [.int z108.1]) (pc' := 642) mf_X8_value mv_X8_value LC8 rfl (c_X8_value _ _ _ z108.2 v109 v110 ) (by omega) tw_1051 rfl rfl rfl (Nat.le_of_ble_eq_true rfl) dL_law_639 rfl (fun z111 e_z111 => ?_)
                                refine GG_icmp_eq hk 1275 (pc' := 645) dL_law_642 rfl (by decide) (fun c112 => ?_) (fun c112 => ?_)
                                · refine GG_iinc hk (pc' := 1278) 3 (l3 + 5) [(3, .int (l3 + 5)), (0, .ref b), (1, .ref (kh k + 0)), (2, .ref (kh k + 163))] dL_law_1275 rfl rfl rfl (by decide) rfl ?_
                                  refine GG_goto hk 18 dL_law_1278 (by decide) ?_
                                  refine GG_sub (L' := [(0, .ref b), (1, .ref (kh k + 0)), (2, .ref (kh k + 163)), (3, .int (l3 + 5))]) [1, 2, 3, 0] rfl ?_
                                  exact ih z111.2 (l3 + 5) 
                                · refine GG_iconst hk (pc' := 646) 0 dL_law_645 rfl rfl ?_
                                  exact GG_lawret hk hq dL_law_646
                              · refine GG_if (fun c113 => ?_) (fun c113 => ?_)
                                · refine GG_tabIn hk 647 13 c113 dL_law_32 (by decide) (by decide) rfl (by decide) ?_
                                  refine GG_aload_n hk (pc' := 648) 1 dL_law_647 rfl rfl rfl ?_
                                  refine GG_aload_n hk (pc' := 649) 0 dL_law_648 rfl rfl rfl ?_
                                  refine GG_iload_n hk (pc' := 650) 3 dL_law_649 rfl rfl rfl ?_
                                  refine GG_iconst hk (pc' := 651) 1 dL_law_650 rfl rfl ?_
                                  refine GG_iadd hk (pc' := 652) dL_law_651 rfl ?_
                                  refine GG_sld hk hX (pc' := 653) dL_law_652 rfl (fun v114 e_v114 => ?_)
                                  refine GG_aload_n hk (pc' := 654) 0 dL_law_653 rfl rfl rfl ?_
                                  refine GG_iload_n hk (pc' := 655) 3 dL_law_654 rfl rfl rfl ?_
                                  refine GG_iconst hk (pc' := 656) 2 dL_law_655 rfl rfl ?_
                                  refine GG_iadd hk (pc' := 657) dL_law_656 rfl ?_
                                  refine GG_sld hk hX (pc' := 658) dL_law_657 rfl (fun v115 e_v115 => ?_)
                                  refine GG_aload_n hk (pc' := 659) 0 dL_law_658 rfl rfl rfl ?_
                                  refine GG_iload_n hk (pc' := 660) 3 dL_law_659 rfl rfl rfl ?_
                                  refine GG_iconst hk (pc' := 661) 3 dL_law_660 rfl rfl ?_
                                  refine GG_iadd hk (pc' := 662) dL_law_661 rfl ?_
                                  refine GG_sld hk hX (pc' := 663) dL_law_662 rfl (fun v116 e_v116 => ?_)
                                  refine GG_callVi hk (st := []) (pc' := 666) mf_X7_item mv_X7_item LC7 rfl (c_X7_item _ _ _ M v114 v115 v116 ) (by omega) tw_648 rfl rfl rfl (Nat.le_of_ble_eq_true rfl) dL_law_663 rfl (fun z117 e_z117 => ?_)
                                  refine GG_aload_n hk (pc' := 667) 2 dL_law_666 rfl rfl rfl ?_
                                  refine GG_aload_n hk (pc' := 668) 0 dL_law_667 rfl rfl rfl ?_
                                  refine GG_iload_n hk (pc' := 669) 3 dL_law_668 rfl rfl rfl ?_
                                  refine GG_iconst hk (pc' := 670) 1 dL_law_669 rfl rfl ?_
                                  refine GG_iadd hk (pc' := 671) dL_law_670 rfl ?_
                                  refine GG_sld hk hX (pc' := 672) dL_law_671 rfl (fun v118 e_v118 => ?_)
                                  refine GG_aload_n hk (pc' := 673) 0 dL_law_672 rfl rfl rfl ?_
                                  refine GG_iload_n hk (pc' := 674) 3 dL_law_673 rfl rfl rfl ?_
                                  refine GG_iconst hk (pc' := 675) 2 dL_law_674 rfl rfl ?_
                                  refine GG_iadd hk (pc' := 676) dL_law_675 rfl ?_
                                  refine GG_sld hk hX (pc' := 677) dL_law_676 rfl (fun v119 e_v119 => ?_)
                                  refine GG_aload_n hk (pc' := 678) 0 dL_law_677 rfl rfl rfl ?_
                                  refine GG_iload_n hk (pc' := 679) 3 dL_law_678 rfl rfl rfl ?_
                                  refine GG_iconst hk (pc' := 680) 3 dL_law_679 rfl rfl ?_
                                  refine GG_iadd hk (pc' := 681) dL_law_680 rfl ?_
                                  refine GG_sld hk hX (pc' := 682) dL_law_681 rfl (fun v120 e_v120 => ?_)
                                  refine GG_callVi hk (st := [.int z117.1]) (pc' := 685) mf_X8_item mv_X8_item LC8 rfl (c_X8_item _ _ _ z117.2 v118 v119 v120 ) (by omega) tw_1095 rfl rfl rfl (Nat.le_of_ble_eq_true rfl) dL_law_682 rfl (fun z121 e_z121 => ?_)
                                  refine GG_icmp_eq hk 1275 (pc' := 688) dL_law_685 rfl (by decide) (fun c122 => ?_) (fun c122 => ?_)
                                  · refine GG_iinc hk (pc' := 1278) 3 (l3 + 5) [(3, .int (l3 + 5)), (0, .ref b), (1, .ref (kh k + 0)), (2, .ref (kh k + 163))] dL_law_1275 rfl rfl rfl (by decide) rfl ?_
                                    refine GG_goto hk 18 dL_law_1278 (by decide) ?_
                                    refine GG_sub (L' := [(0, .ref b), (1, .ref (kh k + 0)), (2, .ref (kh k + 163)), (3, .int (l3 + 5))]) [1, 2, 3, 0] rfl ?_
                                    exact ih z121.2 (l3 + 5) 
                                  · refine GG_iconst hk (pc' := 689) 0 dL_law_688 rfl rfl ?_
                                    exact GG_lawret hk hq dL_law_689
                                · refine GG_if (fun c123 => ?_) (fun c123 => ?_)
                                  · refine GG_tabIn hk 690 14 c123 dL_law_32 (by decide) (by decide) rfl (by decide) ?_
                                    refine GG_aload_n hk (pc' := 691) 1 dL_law_690 rfl rfl rfl ?_
                                    refine GG_aload_n hk (pc' := 692) 0 dL_law_691 rfl rfl rfl ?_
                                    refine GG_iload_n hk (pc' := 693) 3 dL_law_692 rfl rfl rfl ?_
                                    refine GG_iconst hk (pc' := 694) 1 dL_law_693 rfl rfl ?_
                                    refine GG_iadd hk (pc' := 695) dL_law_694 rfl ?_
                                    refine GG_sld hk hX (pc' := 696) dL_law_695 rfl (fun v124 e_v124 => ?_)
                                    refine GG_aload_n hk (pc' := 697) 0 dL_law_696 rfl rfl rfl ?_
                                    refine GG_iload_n hk (pc' := 698) 3 dL_law_697 rfl rfl rfl ?_
                                    refine GG_iconst hk (pc' := 699) 2 dL_law_698 rfl rfl ?_
                                    refine GG_iadd hk (pc' := 700) dL_law_699 rfl ?_
                                    refine GG_sld hk hX (pc' := 701) dL_law_700 rfl (fun v125 e_v125 => ?_)
                                    refine GG_aload_n hk (pc' := 702) 0 dL_law_701 rfl rfl rfl ?_
                                    refine GG_iload_n hk (pc' := 703) 3 dL_law_702 rfl rfl rfl ?_
                                    refine GG_iconst hk (pc' := 704) 3 dL_law_703 rfl rfl ?_
                                    refine GG_iadd hk (pc' := 705) dL_law_704 rfl ?_
                                    refine GG_sld hk hX (pc' := 706) dL_law_705 rfl (fun v126 e_v126 => ?_)
                                    refine GG_callVi hk (st := []) (pc' := 709) mf_X7_fault mv_X7_fault LC7 rfl (c_X7_fault _ _ _ M v124 v125 v126 ) (by omega) tw_652 rfl rfl rfl (Nat.le_of_ble_eq_true rfl) dL_law_706 rfl (fun z127 e_z127 => ?_)
                                    refine GG_aload_n hk (pc' := 710) 2 dL_law_709 rfl rfl rfl ?_
                                    refine GG_aload_n hk (pc' := 711) 0 dL_law_710 rfl rfl rfl ?_
                                    refine GG_iload_n hk (pc' := 712) 3 dL_law_711 rfl rfl rfl ?_
                                    refine GG_iconst hk (pc' := 713) 1 dL_law_712 rfl rfl ?_
                                    refine GG_iadd hk (pc' := 714) dL_law_713 rfl ?_
                                    refine GG_sld hk hX (pc' := 715) dL_law_714 rfl (fun v128 e_v128 => ?_)
                                    refine GG_aload_n hk (pc' := 716) 0 dL_law_715 rfl rfl rfl ?_
                                    refine GG_iload_n hk (pc' := 717) 3 dL_law_716 rfl rfl rfl ?_
                                    refine GG_iconst hk (pc' := 718) 2 dL_law_717 rfl rfl ?_
                                    refine GG_iadd hk (pc' := 719) dL_law_718 rfl ?_
                                    refine GG_sld hk hX (pc' := 720) dL_law_719 rfl (fun v129 e_v129 => ?_)
                                    refine GG_aload_n hk (pc' := 721) 0 dL_law_720 rfl rfl rfl ?_
                                    refine GG_iload_n hk (pc' := 722) 3 dL_law_721 rfl rfl rfl ?_
                                    refine GG_iconst hk (pc' := 723) 3 dL_law_722 rfl rfl ?_
                                    refine GG_iadd hk (pc' := 724) dL_law_723 rfl ?_
                                    refine GG_sld hk hX (pc' := 725) dL_law_724 rfl (fun v130 e_v130 => ?_)
                                    refine GG_callVi hk (st := [.int z127.1]) (pc' := 728) mf_X8_fault mv_X8_fault LC8 rfl (c_X8_fault _ _ _ z127.2 v128 v129 v130 ) (by omega) tw_1099 rfl rfl rfl (Nat.le_of_ble_eq_true rfl) dL_law_725 rfl (fun z131 e_z131 => ?_)
                                    refine GG_icmp_eq hk 1275 (pc' := 731) dL_law_728 rfl (by decide) (fun c132 => ?_) (fun c132 => ?_)
                                    · refine GG_iinc hk (pc' := 1278) 3 (l3 + 5) [(3, .int (l3 + 5)), (0, .ref b), (1, .ref (kh k + 0)), (2, .ref (kh k + 163))] dL_law_1275 rfl rfl rfl (by decide) rfl ?_
                                      refine GG_goto hk 18 dL_law_1278 (by decide) ?_
                                      refine GG_sub (L' := [(0, .ref b), (1, .ref (kh k + 0)), (2, .ref (kh k + 163)), (3, .int (l3 + 5))]) [1, 2, 3, 0] rfl ?_
                                      exact ih z131.2 (l3 + 5) 
                                    · refine GG_iconst hk (pc' := 732) 0 dL_law_731 rfl rfl ?_
                                      exact GG_lawret hk hq dL_law_732
                                  · refine GG_if (fun c133 => ?_) (fun c133 => ?_)
                                    · refine GG_tabIn hk 733 15 c133 dL_law_32 (by decide) (by decide) rfl (by decide) ?_
                                      refine GG_aload_n hk (pc' := 734) 1 dL_law_733 rfl rfl rfl ?_
                                      refine GG_aload_n hk (pc' := 735) 0 dL_law_734 rfl rfl rfl ?_
                                      refine GG_iload_n hk (pc' := 736) 3 dL_law_735 rfl rfl rfl ?_
                                      refine GG_iconst hk (pc' := 737) 1 dL_law_736 rfl rfl ?_
                                      refine GG_iadd hk (pc' := 738) dL_law_737 rfl ?_
                                      refine GG_sld hk hX (pc' := 739) dL_law_738 rfl (fun v134 e_v134 => ?_)
                                      refine GG_aload_n hk (pc' := 740) 0 dL_law_739 rfl rfl rfl ?_
                                      refine GG_iload_n hk (pc' := 741) 3 dL_law_740 rfl rfl rfl ?_
                                      refine GG_iconst hk (pc' := 742) 2 dL_law_741 rfl rfl ?_
                                      refine GG_iadd hk (pc' := 743) dL_law_742 rfl ?_
                                      refine GG_sld hk hX (pc' := 744) dL_law_743 rfl (fun v135 e_v135 => ?_)
                                      refine GG_callVi hk (st := []) (pc' := 747) mf_X7_sources mv_X7_sources LC7 rfl (c_X7_sources _ _ _ M v134 v135 ) (by omega) tw_656 rfl rfl rfl (Nat.le_of_ble_eq_true rfl) dL_law_744 rfl (fun z136 e_z136 => ?_)
                                      refine GG_aload_n hk (pc' := 748) 2 dL_law_747 rfl rfl rfl ?_
                                      refine GG_aload_n hk (pc' := 749) 0 dL_law_748 rfl rfl rfl ?_
                                      refine GG_iload_n hk (pc' := 750) 3 dL_law_749 rfl rfl rfl ?_
                                      refine GG_iconst hk (pc' := 751) 1 dL_law_750 rfl rfl ?_
                                      refine GG_iadd hk (pc' := 752) dL_law_751 rfl ?_
                                      refine GG_sld hk hX (pc' := 753) dL_law_752 rfl (fun v137 e_v137 => ?_)
                                      refine GG_aload_n hk (pc' := 754) 0 dL_law_753 rfl rfl rfl ?_
                                      refine GG_iload_n hk (pc' := 755) 3 dL_law_754 rfl rfl rfl ?_
                                      refine GG_iconst hk (pc' := 756) 2 dL_law_755 rfl rfl ?_
                                      refine GG_iadd hk (pc' := 757) dL_law_756 rfl ?_
                                      refine GG_sld hk hX (pc' := 758) dL_law_757 rfl (fun v138 e_v138 => ?_)
                                      refine GG_callVi hk (st := [.int z136.1]) (pc' := 761) mf_X8_sources mv_X8_sources LC8 rfl (c_X8_sources _ _ _ z136.2 v137 v138 ) (by omega) tw_1103 rfl rfl rfl (Nat.le_of_ble_eq_true rfl) dL_law_758 rfl (fun z139 e_z139 => ?_)
                                      refine GG_icmp_eq hk 1275 (pc' := 764) dL_law_761 rfl (by decide) (fun c140 => ?_) (fun c140 => ?_)
                                      · refine GG_iinc hk (pc' := 1278) 3 (l3 + 5) [(3, .int (l3 + 5)), (0, .ref b), (1, .ref (kh k + 0)), (2, .ref (kh k + 163))] dL_law_1275 rfl rfl rfl (by decide) rfl ?_
                                        refine GG_goto hk 18 dL_law_1278 (by decide) ?_
                                        refine GG_sub (L' := [(0, .ref b), (1, .ref (kh k + 0)), (2, .ref (kh k + 163)), (3, .int (l3 + 5))]) [1, 2, 3, 0] rfl ?_
                                        exact ih z139.2 (l3 + 5) 
                                      · refine GG_iconst hk (pc' := 765) 0 dL_law_764 rfl rfl ?_
                                        exact GG_lawret hk hq dL_law_765
                                    · refine GG_if (fun c141 => ?_) (fun c141 => ?_)
                                      · refine GG_tabIn hk 766 16 c141 dL_law_32 (by decide) (by decide) rfl (by decide) ?_
                                        refine GG_aload_n hk (pc' := 767) 1 dL_law_766 rfl rfl rfl ?_
                                        refine GG_aload_n hk (pc' := 768) 0 dL_law_767 rfl rfl rfl ?_
                                        refine GG_iload_n hk (pc' := 769) 3 dL_law_768 rfl rfl rfl ?_
                                        refine GG_iconst hk (pc' := 770) 1 dL_law_769 rfl rfl ?_
                                        refine GG_iadd hk (pc' := 771) dL_law_770 rfl ?_
                                        refine GG_sld hk hX (pc' := 772) dL_law_771 rfl (fun v142 e_v142 => ?_)
                                        refine GG_aload_n hk (pc' := 773) 0 dL_law_772 rfl rfl rfl ?_
                                        refine GG_iload_n hk (pc' := 774) 3 dL_law_773 rfl rfl rfl ?_
                                        refine GG_iconst hk (pc' := 775) 2 dL_law_774 rfl rfl ?_
                                        refine GG_iadd hk (pc' := 776) dL_law_775 rfl ?_
                                        refine GG_sld hk hX (pc' := 777) dL_law_776 rfl (fun v143 e_v143 => ?_)
                                        refine GG_callVi hk (st := []) (pc' := 780) mf_X7_uses mv_X7_uses LC7 rfl (c_X7_uses _ _ _ M v142 v143 ) (by omega) tw_660 rfl rfl rfl (Nat.le_of_ble_eq_true rfl) dL_law_777 rfl (fun z144 e_z144 => ?_)
                                        refine GG_aload_n hk (pc' := 781) 2 dL_law_780 rfl rfl rfl ?_
                                        refine GG_aload_n hk (pc' := 782) 0 dL_law_781 rfl rfl rfl ?_
                                        refine GG_iload_n hk (pc' := 783) 3 dL_law_782 rfl rfl rfl ?_
                                        refine GG_iconst hk (pc' := 784) 1 dL_law_783 rfl rfl ?_
                                        refine GG_iadd hk (pc' := 785) dL_law_784 rfl ?_
                                        refine GG_sld hk hX (pc' := 786) dL_law_785 rfl (fun v145 e_v145 => ?_)
                                        refine GG_aload_n hk (pc' := 787) 0 dL_law_786 rfl rfl rfl ?_
                                        refine GG_iload_n hk (pc' := 788) 3 dL_law_787 rfl rfl rfl ?_
                                        refine GG_iconst hk (pc' := 789) 2 dL_law_788 rfl rfl ?_
                                        refine GG_iadd hk (pc' := 790) dL_law_789 rfl ?_
                                        refine GG_sld hk hX (pc' := 791) dL_law_790 rfl (fun v146 e_v146 => ?_)
                                        refine GG_callVi hk (st := [.int z144.1]) (pc' := 794) mf_X8_uses mv_X8_uses LC8 rfl (c_X8_uses _ _ _ z144.2 v145 v146 ) (by omega) tw_1107 rfl rfl rfl (Nat.le_of_ble_eq_true rfl) dL_law_791 rfl (fun z147 e_z147 => ?_)
                                        refine GG_icmp_eq hk 1275 (pc' := 797) dL_law_794 rfl (by decide) (fun c148 => ?_) (fun c148 => ?_)
                                        · refine GG_iinc hk (pc' := 1278) 3 (l3 + 5) [(3, .int (l3 + 5)), (0, .ref b), (1, .ref (kh k + 0)), (2, .ref (kh k + 163))] dL_law_1275 rfl rfl rfl (by decide) rfl ?_
                                          refine GG_goto hk 18 dL_law_1278 (by decide) ?_
                                          refine GG_sub (L' := [(0, .ref b), (1, .ref (kh k + 0)), (2, .ref (kh k + 163)), (3, .int (l3 + 5))]) [1, 2, 3, 0] rfl ?_
                                          exact ih z147.2 (l3 + 5) 
                                        · refine GG_iconst hk (pc' := 798) 0 dL_law_797 rfl rfl ?_
                                          exact GG_lawret hk hq dL_law_798
                                      · refine GG_if (fun c149 => ?_) (fun c149 => ?_)
                                        · refine GG_tabIn hk 799 17 c149 dL_law_32 (by decide) (by decide) rfl (by decide) ?_
                                          refine GG_aload_n hk (pc' := 800) 1 dL_law_799 rfl rfl rfl ?_
                                          refine GG_aload_n hk (pc' := 801) 0 dL_law_800 rfl rfl rfl ?_
                                          refine GG_iload_n hk (pc' := 802) 3 dL_law_801 rfl rfl rfl ?_
                                          refine GG_iconst hk (pc' := 803) 1 dL_law_802 rfl rfl ?_
                                          refine GG_iadd hk (pc' := 804) dL_law_803 rfl ?_
                                          refine GG_sld hk hX (pc' := 805) dL_law_804 rfl (fun v150 e_v150 => ?_)
                                          refine GG_callVi hk (st := []) (pc' := 808) mf_X7_all mv_X7_all LC7 rfl (c_X7_all _ _ _ M v150 ) (by omega) tw_668 rfl rfl rfl (Nat.le_of_ble_eq_true rfl) dL_law_805 rfl (fun z151 e_z151 => ?_)
                                          refine GG_aload_n hk (pc' := 809) 2 dL_law_808 rfl rfl rfl ?_
                                          refine GG_aload_n hk (pc' := 810) 0 dL_law_809 rfl rfl rfl ?_
                                          refine GG_iload_n hk (pc' := 811) 3 dL_law_810 rfl rfl rfl ?_
                                          refine GG_iconst hk (pc' := 812) 1 dL_law_811 rfl rfl ?_
                                          refine GG_iadd hk (pc' := 813) dL_law_812 rfl ?_
                                          refine GG_sld hk hX (pc' := 814) dL_law_813 rfl (fun v152 e_v152 => ?_)
                                          refine GG_callVi hk (st := [.int z151.1]) (pc' := 817) mf_X8_all mv_X8_all LC8 rfl (c_X8_all _ _ _ z151.2 v152 ) (by omega) tw_1115 rfl rfl rfl (Nat.le_of_ble_eq_true rfl) dL_law_814 rfl (fun z153 e_z153 => ?_)
                                          refine GG_icmp_eq hk 1275 (pc' := 820) dL_law_817 rfl (by decide) (fun c154 => ?_) (fun c154 => ?_)
                                          · refine GG_iinc hk (pc' := 1278) 3 (l3 + 5) [(3, .int (l3 + 5)), (0, .ref b), (1, .ref (kh k + 0)), (2, .ref (kh k + 163))] dL_law_1275 rfl rfl rfl (by decide) rfl ?_
                                            refine GG_goto hk 18 dL_law_1278 (by decide) ?_
                                            refine GG_sub (L' := [(0, .ref b), (1, .ref (kh k + 0)), (2, .ref (kh k + 163)), (3, .int (l3 + 5))]) [1, 2, 3, 0] rfl ?_
                                            exact ih z153.2 (l3 + 5) 
                                          · refine GG_iconst hk (pc' := 821) 0 dL_law_820 rfl rfl ?_
                                            exact GG_lawret hk hq dL_law_821
                                        · refine GG_if (fun c155 => ?_) (fun c155 => ?_)
                                          · refine GG_tabIn hk 822 18 c155 dL_law_32 (by decide) (by decide) rfl (by decide) ?_
                                            refine GG_aload_n hk (pc' := 823) 1 dL_law_822 rfl rfl rfl ?_
                                            refine GG_aload_n hk (pc' := 824) 0 dL_law_823 rfl rfl rfl ?_
                                            refine GG_iload_n hk (pc' := 825) 3 dL_law_824 rfl rfl rfl ?_
                                            refine GG_iconst hk (pc' := 826) 1 dL_law_825 rfl rfl ?_
                                            refine GG_iadd hk (pc' := 827) dL_law_826 rfl ?_
                                            refine GG_sld hk hX (pc' := 828) dL_law_827 rfl (fun v156 e_v156 => ?_)
                                            refine GG_callVi hk (st := []) (pc' := 831) mf_X7_hidden mv_X7_hidden LC7 rfl (c_X7_hidden _ _ _ M v156 ) (by omega) tw_679 rfl rfl rfl (Nat.le_of_ble_eq_true rfl) dL_law_828 rfl (fun z157 e_z157 => ?_)
                                            refine GG_aload_n hk (pc' := 832) 2 dL_law_831 rfl rfl rfl ?_
                                            refine GG_aload_n hk (pc' := 833) 0 dL_law_832 rfl rfl rfl ?_
                                            refine GG_iload_n hk (pc' := 834) 3 dL_law_833 rfl rfl rfl ?_
                                            refine GG_iconst hk (pc' := 835) 1 dL_law_834 rfl rfl ?_
                                            refine GG_iadd hk (pc' := 836) dL_law_835 rfl ?_
                                            refine GG_sld hk hX (pc' := 837) dL_law_836 rfl (fun v158 e_v158 => ?_)
                                            refine GG_callVi hk (st := [.int z157.1]) (pc' := 840) mf_X8_hidden mv_X8_hidden LC8 rfl (c_X8_hidden _ _ _ z157.2 v158 ) (by omega) tw_1127 rfl rfl rfl (Nat.le_of_ble_eq_true rfl) dL_law_837 rfl (fun z159 e_z159 => ?_)
                                            refine GG_icmp_eq hk 1275 (pc' := 843) dL_law_840 rfl (by decide) (fun c160 => ?_) (fun c160 => ?_)
                                            · refine GG_iinc hk (pc' := 1278) 3 (l3 + 5) [(3, .int (l3 + 5)), (0, .ref b), (1, .ref (kh k + 0)), (2, .ref (kh k + 163))] dL_law_1275 rfl rfl rfl (by decide) rfl ?_
                                              refine GG_goto hk 18 dL_law_1278 (by decide) ?_
                                              refine GG_sub (L' := [(0, .ref b), (1, .ref (kh k + 0)), (2, .ref (kh k + 163)), (3, .int (l3 + 5))]) [1, 2, 3, 0] rfl ?_
                                              exact ih z159.2 (l3 + 5) 
                                            · refine GG_iconst hk (pc' := 844) 0 dL_law_843 rfl rfl ?_
                                              exact GG_lawret hk hq dL_law_844
                                          · refine GG_if (fun c161 => ?_) (fun c161 => ?_)
                                            · refine GG_tabIn hk 845 19 c161 dL_law_32 (by decide) (by decide) rfl (by decide) ?_
                                              refine GG_aload_n hk (pc' := 846) 1 dL_law_845 rfl rfl rfl ?_
                                              refine GG_aload_n hk (pc' := 847) 0 dL_law_846 rfl rfl rfl ?_
                                              refine GG_iload_n hk (pc' := 848) 3 dL_law_847 rfl rfl rfl ?_
                                              refine GG_iconst hk (pc' := 849) 1 dL_law_848 rfl rfl ?_
                                              refine GG_iadd hk (pc' := 850) dL_law_849 rfl ?_
                                              refine GG_sld hk hX (pc' := 851) dL_law_850 rfl (fun v162 e_v162 => ?_)
                                              refine GG_aload_n hk (pc' := 852) 0 dL_law_851 rfl rfl rfl ?_
                                              refine GG_iload_n hk (pc' := 853) 3 dL_law_852 rfl rfl rfl ?_
                                              refine GG_iconst hk (pc' := 854) 2 dL_law_853 rfl rfl ?_
                                              refine GG_iadd hk (pc' := 855) dL_law_854 rfl ?_
                                              refine GG_sld hk hX (pc' := 856) dL_law_855 rfl (fun v163 e_v163 => ?_)
                                              refine GG_callVi hk (st := []) (pc' := 859) mf_X7_without mv_X7_without LC7 rfl (c_X7_without _ _ _ M v162 v163 ) (by omega) tw_694 rfl rfl rfl (Nat.le_of_ble_eq_true rfl) dL_law_856 rfl (fun z164 e_z164 => ?_)
                                              refine GG_aload_n hk (pc' := 860) 2 dL_law_859 rfl rfl rfl ?_
                                              refine GG_aload_n hk (pc' := 861) 0 dL_law_860 rfl rfl rfl ?_
                                              refine GG_iload_n hk (pc' := 862) 3 dL_law_861 rfl rfl rfl ?_
                                              refine GG_iconst hk (pc' := 863) 1 dL_law_862 rfl rfl ?_
                                              refine GG_iadd hk (pc' := 864) dL_law_863 rfl ?_
                                              refine GG_sld hk hX (pc' := 865) dL_law_864 rfl (fun v165 e_v165 => ?_)
                                              refine GG_aload_n hk (pc' := 866) 0 dL_law_865 rfl rfl rfl ?_
                                              refine GG_iload_n hk (pc' := 867) 3 dL_law_866 rfl rfl rfl ?_
                                              refine GG_iconst hk (pc' := 868) 2 dL_law_867 rfl rfl ?_
                                              refine GG_iadd hk (pc' := 869) dL_law_868 rfl ?_
                                              refine GG_sld hk hX (pc' := 870) dL_law_869 rfl (fun v166 e_v166 => ?_)
                                              refine GG_callVi hk (st := [.int z164.1]) (pc' := 873) mf_X8_without mv_X8_without LC8 rfl (c_X8_without _ _ _ z164.2 v165 v166 ) (by omega) tw_1143 rfl rfl rfl (Nat.le_of_ble_eq_true rfl) dL_law_870 rfl (fun z167 e_z167 => ?_)
                                              refine GG_icmp_eq hk 1275 (pc' := 876) dL_law_873 rfl (by decide) (fun c168 => ?_) (fun c168 => ?_)
                                              · refine GG_iinc hk (pc' := 1278) 3 (l3 + 5) [(3, .int (l3 + 5)), (0, .ref b), (1, .ref (kh k + 0)), (2, .ref (kh k + 163))] dL_law_1275 rfl rfl rfl (by decide) rfl ?_
                                                refine GG_goto hk 18 dL_law_1278 (by decide) ?_
                                                refine GG_sub (L' := [(0, .ref b), (1, .ref (kh k + 0)), (2, .ref (kh k + 163)), (3, .int (l3 + 5))]) [1, 2, 3, 0] rfl ?_
                                                exact ih z167.2 (l3 + 5) 
                                              · refine GG_iconst hk (pc' := 877) 0 dL_law_876 rfl rfl ?_
                                                exact GG_lawret hk hq dL_law_877
                                            · refine GG_if (fun c169 => ?_) (fun c169 => ?_)
                                              · refine GG_tabIn hk 878 20 c169 dL_law_32 (by decide) (by decide) rfl (by decide) ?_
                                                refine GG_aload_n hk (pc' := 879) 1 dL_law_878 rfl rfl rfl ?_
                                                refine GG_aload_n hk (pc' := 880) 0 dL_law_879 rfl rfl rfl ?_
                                                refine GG_iload_n hk (pc' := 881) 3 dL_law_880 rfl rfl rfl ?_
                                                refine GG_iconst hk (pc' := 882) 1 dL_law_881 rfl rfl ?_
                                                refine GG_iadd hk (pc' := 883) dL_law_882 rfl ?_
                                                refine GG_sld hk hX (pc' := 884) dL_law_883 rfl (fun v170 e_v170 => ?_)
                                                refine GG_aload_n hk (pc' := 885) 0 dL_law_884 rfl rfl rfl ?_
                                                refine GG_iload_n hk (pc' := 886) 3 dL_law_885 rfl rfl rfl ?_
                                                refine GG_iconst hk (pc' := 887) 2 dL_law_886 rfl rfl ?_
                                                refine GG_iadd hk (pc' := 888) dL_law_887 rfl ?_
                                                refine GG_sld hk hX (pc' := 889) dL_law_888 rfl (fun v171 e_v171 => ?_)
                                                refine GG_callVi hk (st := []) (pc' := 892) mf_X7_turn mv_X7_turn LC7 rfl (c_X7_turn _ _ _ M v170 v171 ) (by omega) tw_702 rfl rfl rfl (Nat.le_of_ble_eq_true rfl) dL_law_889 rfl (fun z172 e_z172 => ?_)
                                                refine GG_aload_n hk (pc' := 893) 2 dL_law_892 rfl rfl rfl ?_
                                                refine GG_aload_n hk (pc' := 894) 0 dL_law_893 rfl rfl rfl ?_
                                                refine GG_iload_n hk (pc' := 895) 3 dL_law_894 rfl rfl rfl ?_
                                                refine GG_iconst hk (pc' := 896) 1 dL_law_895 rfl rfl ?_
                                                refine GG_iadd hk (pc' := 897) dL_law_896 rfl ?_
                                                refine GG_sld hk hX (pc' := 898) dL_law_897 rfl (fun v173 e_v173 => ?_)
                                                refine GG_aload_n hk (pc' := 899) 0 dL_law_898 rfl rfl rfl ?_
                                                refine GG_iload_n hk (pc' := 900) 3 dL_law_899 rfl rfl rfl ?_
                                                refine GG_iconst hk (pc' := 901) 2 dL_law_900 rfl rfl ?_
                                                refine GG_iadd hk (pc' := 902) dL_law_901 rfl ?_
                                                refine GG_sld hk hX (pc' := 903) dL_law_902 rfl (fun v174 e_v174 => ?_)
                                                refine GG_callVi hk (st := [.int z172.1]) (pc' := 906) mf_X8_turn mv_X8_turn LC8 rfl (c_X8_turn _ _ _ z172.2 v173 v174 ) (by omega) tw_1155 rfl rfl rfl (Nat.le_of_ble_eq_true rfl) dL_law_903 rfl (fun z175 e_z175 => ?_)
                                                refine GG_icmp_eq hk 1275 (pc' := 909) dL_law_906 rfl (by decide) (fun c176 => ?_) (fun c176 => ?_)
                                                · refine GG_iinc hk (pc' := 1278) 3 (l3 + 5) [(3, .int (l3 + 5)), (0, .ref b), (1, .ref (kh k + 0)), (2, .ref (kh k + 163))] dL_law_1275 rfl rfl rfl (by decide) rfl ?_
                                                  refine GG_goto hk 18 dL_law_1278 (by decide) ?_
                                                  refine GG_sub (L' := [(0, .ref b), (1, .ref (kh k + 0)), (2, .ref (kh k + 163)), (3, .int (l3 + 5))]) [1, 2, 3, 0] rfl ?_
                                                  exact ih z175.2 (l3 + 5) 
                                                · refine GG_iconst hk (pc' := 910) 0 dL_law_909 rfl rfl ?_
                                                  exact GG_lawret hk hq dL_law_910
                                              · refine GG_if (fun c177 => ?_) (fun c177 => ?_)
                                                · refine GG_tabIn hk 911 21 c177 dL_law_32 (by decide) (by decide) rfl (by decide) ?_
                                                  refine GG_aload_n hk (pc' := 912) 1 dL_law_911 rfl rfl rfl ?_
                                                  refine GG_aload_n hk (pc' := 913) 0 dL_law_912 rfl rfl rfl ?_
                                                  refine GG_iload_n hk (pc' := 914) 3 dL_law_913 rfl rfl rfl ?_
                                                  refine GG_iconst hk (pc' := 915) 1 dL_law_914 rfl rfl ?_
                                                  refine GG_iadd hk (pc' := 916) dL_law_915 rfl ?_
                                                  refine GG_sld hk hX (pc' := 917) dL_law_916 rfl (fun v178 e_v178 => ?_)
                                                  refine GG_aload_n hk (pc' := 918) 0 dL_law_917 rfl rfl rfl ?_
                                                  refine GG_iload_n hk (pc' := 919) 3 dL_law_918 rfl rfl rfl ?_
                                                  refine GG_iconst hk (pc' := 920) 2 dL_law_919 rfl rfl ?_
                                                  refine GG_iadd hk (pc' := 921) dL_law_920 rfl ?_
                                                  refine GG_sld hk hX (pc' := 922) dL_law_921 rfl (fun v179 e_v179 => ?_)
                                                  refine GG_aload_n hk (pc' := 923) 0 dL_law_922 rfl rfl rfl ?_
                                                  refine GG_iload_n hk (pc' := 924) 3 dL_law_923 rfl rfl rfl ?_
                                                  refine GG_iconst hk (pc' := 925) 3 dL_law_924 rfl rfl ?_
                                                  refine GG_iadd hk (pc' := 926) dL_law_925 rfl ?_
                                                  refine GG_sld hk hX (pc' := 927) dL_law_926 rfl (fun v180 e_v180 => ?_)
                                                  refine GG_aload_n hk (pc' := 928) 0 dL_law_927 rfl rfl rfl ?_
                                                  refine GG_iload_n hk (pc' := 929) 3 dL_law_928 rfl rfl rfl ?_
                                                  refine GG_iconst hk (pc' := 930) 4 dL_law_929 rfl rfl ?_
                                                  refine GG_iadd hk (pc' := 931) dL_law_930 rfl ?_
                                                  refine GG_sld hk hX (pc' := 932) dL_law_931 rfl (fun v181 e_v181 => ?_)
                                                  refine GG_callVi hk (st := []) (pc' := 935) mf_X7_set mv_X7_set LC7 rfl (c_X7_set _ _ _ M v178 v179 v180 v181 ) (by omega) tw_706 rfl rfl rfl (Nat.le_of_ble_eq_true rfl) dL_law_932 rfl (fun z182 e_z182 => ?_)
                                                  refine GG_aload_n hk (pc' := 936) 2 dL_law_935 rfl rfl rfl ?_
                                                  refine GG_aload_n hk (pc' := 937) 0 dL_law_936 rfl rfl rfl ?_
                                                  refine GG_iload_n hk (pc' := 938) 3 dL_law_937 rfl rfl rfl ?_
                                                  refine GG_iconst hk (pc' := 939) 1 dL_law_938 rfl rfl ?_
                                                  refine GG_iadd hk (pc' := 940) dL_law_939 rfl ?_
                                                  refine GG_sld hk hX (pc' := 941) dL_law_940 rfl (fun v183 e_v183 => ?_)
                                                  refine GG_aload_n hk (pc' := 942) 0 dL_law_941 rfl rfl rfl ?_
                                                  refine GG_iload_n hk (pc' := 943) 3 dL_law_942 rfl rfl rfl ?_
                                                  refine GG_iconst hk (pc' := 944) 2 dL_law_943 rfl rfl ?_
                                                  refine GG_iadd hk (pc' := 945) dL_law_944 rfl ?_
                                                  refine GG_sld hk hX (pc' := 946) dL_law_945 rfl (fun v184 e_v184 => ?_)
                                                  refine GG_aload_n hk (pc' := 947) 0 dL_law_946 rfl rfl rfl ?_
                                                  refine GG_iload_n hk (pc' := 948) 3 dL_law_947 rfl rfl rfl ?_
                                                  refine GG_iconst hk (pc' := 949) 3 dL_law_948 rfl rfl ?_
                                                  refine GG_iadd hk (pc' := 950) dL_law_949 rfl ?_
                                                  refine GG_sld hk hX (pc' := 951) dL_law_950 rfl (fun v185 e_v185 => ?_)
                                                  refine GG_aload_n hk (pc' := 952) 0 dL_law_951 rfl rfl rfl ?_
                                                  refine GG_iload_n hk (pc' := 953) 3 dL_law_952 rfl rfl rfl ?_
                                                  refine GG_iconst hk (pc' := 954) 4 dL_law_953 rfl rfl ?_
                                                  refine GG_iadd hk (pc' := 955) dL_law_954 rfl ?_
                                                  refine GG_sld hk hX (pc' := 956) dL_law_955 rfl (fun v186 e_v186 => ?_)
                                                  refine GG_callVi hk (st := [.int z182.1]) (pc' := 959) mf_X8_set mv_X8_set LC8 rfl (c_X8_set _ _ _ z182.2 v183 v184 v185 v186 ) (by omega) tw_1159 rfl rfl rfl (Nat.le_of_ble_eq_true rfl) dL_law_956 rfl (fun z187 e_z187 => ?_)
                                                  refine GG_icmp_eq hk 1275 (pc' := 962) dL_law_959 rfl (by decide) (fun c188 => ?_) (fun c188 => ?_)
                                                  · refine GG_iinc hk (pc' := 1278) 3 (l3 + 5) [(3, .int (l3 + 5)), (0, .ref b), (1, .ref (kh k + 0)), (2, .ref (kh k + 163))] dL_law_1275 rfl rfl rfl (by decide) rfl ?_
                                                    refine GG_goto hk 18 dL_law_1278 (by decide) ?_
                                                    refine GG_sub (L' := [(0, .ref b), (1, .ref (kh k + 0)), (2, .ref (kh k + 163)), (3, .int (l3 + 5))]) [1, 2, 3, 0] rfl ?_
                                                    exact ih z187.2 (l3 + 5) 
                                                  · refine GG_iconst hk (pc' := 963) 0 dL_law_962 rfl rfl ?_
                                                    exact GG_lawret hk hq dL_law_963
                                                · refine GG_if (fun c189 => ?_) (fun c189 => ?_)
                                                  · refine GG_tabIn hk 964 22 c189 dL_law_32 (by decide) (by decide) rfl (by decide) ?_
                                                    refine GG_aload_n hk (pc' := 965) 1 dL_law_964 rfl rfl rfl ?_
                                                    refine GG_aload_n hk (pc' := 966) 0 dL_law_965 rfl rfl rfl ?_
                                                    refine GG_iload_n hk (pc' := 967) 3 dL_law_966 rfl rfl rfl ?_
                                                    refine GG_iconst hk (pc' := 968) 1 dL_law_967 rfl rfl ?_
                                                    refine GG_iadd hk (pc' := 969) dL_law_968 rfl ?_
                                                    refine GG_sld hk hX (pc' := 970) dL_law_969 rfl (fun v190 e_v190 => ?_)
                                                    refine GG_aload_n hk (pc' := 971) 0 dL_law_970 rfl rfl rfl ?_
                                                    refine GG_iload_n hk (pc' := 972) 3 dL_law_971 rfl rfl rfl ?_
                                                    refine GG_iconst hk (pc' := 973) 2 dL_law_972 rfl rfl ?_
                                                    refine GG_iadd hk (pc' := 974) dL_law_973 rfl ?_
                                                    refine GG_sld hk hX (pc' := 975) dL_law_974 rfl (fun v191 e_v191 => ?_)
                                                    refine GG_callVi hk (st := []) (pc' := 978) mf_X7_byManner mv_X7_byManner LC7 rfl (c_X7_byManner _ _ _ M v190 v191 ) (by omega) tw_714 rfl rfl rfl (Nat.le_of_ble_eq_true rfl) dL_law_975 rfl (fun z192 e_z192 => ?_)
                                                    refine GG_aload_n hk (pc' := 979) 2 dL_law_978 rfl rfl rfl ?_
                                                    refine GG_aload_n hk (pc' := 980) 0 dL_law_979 rfl rfl rfl ?_
                                                    refine GG_iload_n hk (pc' := 981) 3 dL_law_980 rfl rfl rfl ?_
                                                    refine GG_iconst hk (pc' := 982) 1 dL_law_981 rfl rfl ?_
                                                    refine GG_iadd hk (pc' := 983) dL_law_982 rfl ?_
                                                    refine GG_sld hk hX (pc' := 984) dL_law_983 rfl (fun v193 e_v193 => ?_)
                                                    refine GG_aload_n hk (pc' := 985) 0 dL_law_984 rfl rfl rfl ?_
                                                    refine GG_iload_n hk (pc' := 986) 3 dL_law_985 rfl rfl rfl ?_
                                                    refine GG_iconst hk (pc' := 987) 2 dL_law_986 rfl rfl ?_
                                                    refine GG_iadd hk (pc' := 988) dL_law_987 rfl ?_
                                                    refine GG_sld hk hX (pc' := 989) dL_law_988 rfl (fun v194 e_v194 => ?_)
                                                    refine GG_callVi hk (st := [.int z192.1]) (pc' := 992) mf_X8_byManner mv_X8_byManner LC8 rfl (c_X8_byManner _ _ _ z192.2 v193 v194 ) (by omega) tw_1163 rfl rfl rfl (Nat.le_of_ble_eq_true rfl) dL_law_989 rfl (fun z195 e_z195 => ?_)
                                                    refine GG_icmp_eq hk 1275 (pc' := 995) dL_law_992 rfl (by decide) (fun c196 => ?_) (fun c196 => ?_)
                                                    · refine GG_iinc hk (pc' := 1278) 3 (l3 + 5) [(3, .int (l3 + 5)), (0, .ref b), (1, .ref (kh k + 0)), (2, .ref (kh k + 163))] dL_law_1275 rfl rfl rfl (by decide) rfl ?_
                                                      refine GG_goto hk 18 dL_law_1278 (by decide) ?_
                                                      refine GG_sub (L' := [(0, .ref b), (1, .ref (kh k + 0)), (2, .ref (kh k + 163)), (3, .int (l3 + 5))]) [1, 2, 3, 0] rfl ?_
                                                      exact ih z195.2 (l3 + 5) 
                                                    · refine GG_iconst hk (pc' := 996) 0 dL_law_995 rfl rfl ?_
                                                      exact GG_lawret hk hq dL_law_996
                                                  · refine GG_if (fun c197 => ?_) (fun c197 => ?_)
                                                    · refine GG_tabIn hk 997 23 c197 dL_law_32 (by decide) (by decide) rfl (by decide) ?_
                                                      refine GG_aload_n hk (pc' := 998) 1 dL_law_997 rfl rfl rfl ?_
                                                      refine GG_callVi hk (st := []) (pc' := 1001) mf_X7_fewest mv_X7_fewest LC7 rfl (c_X7_fewest _ _ _ M  ) (by omega) tw_718 rfl rfl rfl (Nat.le_of_ble_eq_true rfl) dL_law_998 rfl (fun z198 e_z198 => ?_)
                                                      refine GG_aload_n hk (pc' := 1002) 2 dL_law_1001 rfl rfl rfl ?_
                                                      refine GG_callVi hk (st := [.int z198.1]) (pc' := 1005) mf_X8_fewest mv_X8_fewest LC8 rfl (c_X8_fewest _ _ _ z198.2  ) (by omega) tw_1167 rfl rfl rfl (Nat.le_of_ble_eq_true rfl) dL_law_1002 rfl (fun z199 e_z199 => ?_)
                                                      refine GG_icmp_eq hk 1275 (pc' := 1008) dL_law_1005 rfl (by decide) (fun c200 => ?_) (fun c200 => ?_)
                                                      · refine GG_iinc hk (pc' := 1278) 3 (l3 + 5) [(3, .int (l3 + 5)), (0, .ref b), (1, .ref (kh k + 0)), (2, .ref (kh k + 163))] dL_law_1275 rfl rfl rfl (by decide) rfl ?_
                                                        refine GG_goto hk 18 dL_law_1278 (by decide) ?_
                                                        refine GG_sub (L' := [(0, .ref b), (1, .ref (kh k + 0)), (2, .ref (kh k + 163)), (3, .int (l3 + 5))]) [1, 2, 3, 0] rfl ?_
                                                        exact ih z199.2 (l3 + 5) 
                                                      · refine GG_iconst hk (pc' := 1009) 0 dL_law_1008 rfl rfl ?_
                                                        exact GG_lawret hk hq dL_law_1009
                                                    · refine GG_if (fun c201 => ?_) (fun c201 => ?_)
                                                      · refine GG_tabIn hk 1010 24 c201 dL_law_32 (by decide) (by decide) rfl (by decide) ?_
                                                        refine GG_aload_n hk (pc' := 1011) 1 dL_law_1010 rfl rfl rfl ?_
                                                        refine GG_callVi hk (st := []) (pc' := 1014) mf_X7_since mv_X7_since LC7 rfl (c_X7_since _ _ _ M  ) (by omega) tw_730 rfl rfl rfl (Nat.le_of_ble_eq_true rfl) dL_law_1011 rfl (fun z202 e_z202 => ?_)
                                                        refine GG_aload_n hk (pc' := 1015) 2 dL_law_1014 rfl rfl rfl ?_
                                                        refine GG_callVi hk (st := [.int z202.1]) (pc' := 1018) mf_X8_since mv_X8_since LC8 rfl (c_X8_since _ _ _ z202.2  ) (by omega) tw_1183 rfl rfl rfl (Nat.le_of_ble_eq_true rfl) dL_law_1015 rfl (fun z203 e_z203 => ?_)
                                                        refine GG_icmp_eq hk 1275 (pc' := 1021) dL_law_1018 rfl (by decide) (fun c204 => ?_) (fun c204 => ?_)
                                                        · refine GG_iinc hk (pc' := 1278) 3 (l3 + 5) [(3, .int (l3 + 5)), (0, .ref b), (1, .ref (kh k + 0)), (2, .ref (kh k + 163))] dL_law_1275 rfl rfl rfl (by decide) rfl ?_
                                                          refine GG_goto hk 18 dL_law_1278 (by decide) ?_
                                                          refine GG_sub (L' := [(0, .ref b), (1, .ref (kh k + 0)), (2, .ref (kh k + 163)), (3, .int (l3 + 5))]) [1, 2, 3, 0] rfl ?_
                                                          exact ih z203.2 (l3 + 5) 
                                                        · refine GG_iconst hk (pc' := 1022) 0 dL_law_1021 rfl rfl ?_
                                                          exact GG_lawret hk hq dL_law_1022
                                                      · refine GG_if (fun c205 => ?_) (fun c205 => ?_)
                                                        · refine GG_tabIn hk 1023 25 c205 dL_law_32 (by decide) (by decide) rfl (by decide) ?_
                                                          refine GG_aload_n hk (pc' := 1024) 1 dL_law_1023 rfl rfl rfl ?_
                                                          refine GG_aload_n hk (pc' := 1025) 0 dL_law_1024 rfl rfl rfl ?_
                                                          refine GG_iload_n hk (pc' := 1026) 3 dL_law_1025 rfl rfl rfl ?_
                                                          refine GG_iconst hk (pc' := 1027) 1 dL_law_1026 rfl rfl ?_
                                                          refine GG_iadd hk (pc' := 1028) dL_law_1027 rfl ?_
                                                          refine GG_sld hk hX (pc' := 1029) dL_law_1028 rfl (fun v206 e_v206 => ?_)
                                                          refine GG_aload_n hk (pc' := 1030) 0 dL_law_1029 rfl rfl rfl ?_
                                                          refine GG_iload_n hk (pc' := 1031) 3 dL_law_1030 rfl rfl rfl ?_
                                                          refine GG_iconst hk (pc' := 1032) 2 dL_law_1031 rfl rfl ?_
                                                          refine GG_iadd hk (pc' := 1033) dL_law_1032 rfl ?_
                                                          refine GG_sld hk hX (pc' := 1034) dL_law_1033 rfl (fun v207 e_v207 => ?_)
                                                          refine GG_aload_n hk (pc' := 1035) 0 dL_law_1034 rfl rfl rfl ?_
                                                          refine GG_iload_n hk (pc' := 1036) 3 dL_law_1035 rfl rfl rfl ?_
                                                          refine GG_iconst hk (pc' := 1037) 3 dL_law_1036 rfl rfl ?_
                                                          refine GG_iadd hk (pc' := 1038) dL_law_1037 rfl ?_
                                                          refine GG_sld hk hX (pc' := 1039) dL_law_1038 rfl (fun v208 e_v208 => ?_)
                                                          refine GG_aload_n hk (pc' := 1040) 0 dL_law_1039 rfl rfl rfl ?_
                                                          refine GG_iload_n hk (pc' := 1041) 3 dL_law_1040 rfl rfl rfl ?_
                                                          refine GG_iconst hk (pc' := 1042) 4 dL_law_1041 rfl rfl ?_
                                                          refine GG_iadd hk (pc' := 1043) dL_law_1042 rfl ?_
                                                          refine GG_sld hk hX (pc' := 1044) dL_law_1043 rfl (fun v209 e_v209 => ?_)
                                                          refine GG_callVl hk (st := []) (pc' := 1047) mf_X7_missing mv_X7_missing LC7 rfl (c_X7_missing _ _ _ M v206 v207 v208 v209 ) (by omega) tw_734 rfl rfl rfl (Nat.le_of_ble_eq_true rfl) dL_law_1044 rfl (fun z210 e_z210 => ?_)
                                                          refine GG_aload_n hk (pc' := 1048) 2 dL_law_1047 rfl rfl rfl ?_
                                                          refine GG_aload_n hk (pc' := 1049) 0 dL_law_1048 rfl rfl rfl ?_
                                                          refine GG_iload_n hk (pc' := 1050) 3 dL_law_1049 rfl rfl rfl ?_
                                                          refine GG_iconst hk (pc' := 1051) 1 dL_law_1050 rfl rfl ?_
                                                          refine GG_iadd hk (pc' := 1052) dL_law_1051 rfl ?_
                                                          refine GG_sld hk hX (pc' := 1053) dL_law_1052 rfl (fun v211 e_v211 => ?_)
                                                          refine GG_aload_n hk (pc' := 1054) 0 dL_law_1053 rfl rfl rfl ?_
                                                          refine GG_iload_n hk (pc' := 1055) 3 dL_law_1054 rfl rfl rfl ?_
                                                          refine GG_iconst hk (pc' := 1056) 2 dL_law_1055 rfl rfl ?_
                                                          refine GG_iadd hk (pc' := 1057) dL_law_1056 rfl ?_
                                                          refine GG_sld hk hX (pc' := 1058) dL_law_1057 rfl (fun v212 e_v212 => ?_)
                                                          refine GG_aload_n hk (pc' := 1059) 0 dL_law_1058 rfl rfl rfl ?_
                                                          refine GG_iload_n hk (pc' := 1060) 3 dL_law_1059 rfl rfl rfl ?_
                                                          refine GG_iconst hk (pc' := 1061) 3 dL_law_1060 rfl rfl ?_
                                                          refine GG_iadd hk (pc' := 1062) dL_law_1061 rfl ?_
                                                          refine GG_sld hk hX (pc' := 1063) dL_law_1062 rfl (fun v213 e_v213 => ?_)
                                                          refine GG_aload_n hk (pc' := 1064) 0 dL_law_1063 rfl rfl rfl ?_
                                                          refine GG_iload_n hk (pc' := 1065) 3 dL_law_1064 rfl rfl rfl ?_
                                                          refine GG_iconst hk (pc' := 1066) 4 dL_law_1065 rfl rfl ?_
                                                          refine GG_iadd hk (pc' := 1067) dL_law_1066 rfl ?_
                                                          refine GG_sld hk hX (pc' := 1068) dL_law_1067 rfl (fun v214 e_v214 => ?_)
                                                          refine GG_callVl hk (st := [.long z210.1]) (pc' := 1071) mf_X8_missing mv_X8_missing LC8 rfl (c_X8_missing _ _ _ z210.2 v211 v212 v213 v214 ) (by omega) tw_1187 rfl rfl rfl (Nat.le_of_ble_eq_true rfl) dL_law_1068 rfl (fun z215 e_z215 => ?_)
                                                          refine GG_lcmp hk (pc' := 1072) dL_law_1071 rfl ?_
                                                          refine GG_if_eq hk 1275 (pc' := 1075) dL_law_1072 rfl (by decide) (fun c216 => ?_) (fun c216 => ?_)
                                                          · refine GG_iinc hk (pc' := 1278) 3 (l3 + 5) [(3, .int (l3 + 5)), (0, .ref b), (1, .ref (kh k + 0)), (2, .ref (kh k + 163))] dL_law_1275 rfl rfl rfl (by decide) rfl ?_
                                                            refine GG_goto hk 18 dL_law_1278 (by decide) ?_
                                                            refine GG_sub (L' := [(0, .ref b), (1, .ref (kh k + 0)), (2, .ref (kh k + 163)), (3, .int (l3 + 5))]) [1, 2, 3, 0] rfl ?_
                                                            exact ih z215.2 (l3 + 5) 
                                                          · refine GG_iconst hk (pc' := 1076) 0 dL_law_1075 rfl rfl ?_
                                                            exact GG_lawret hk hq dL_law_1076
                                                        · refine GG_if (fun c217 => ?_) (fun c217 => ?_)
                                                          · refine GG_tabIn hk 1077 26 c217 dL_law_32 (by decide) (by decide) rfl (by decide) ?_
                                                            refine GG_aload_n hk (pc' := 1078) 1 dL_law_1077 rfl rfl rfl ?_
                                                            refine GG_aload_n hk (pc' := 1079) 0 dL_law_1078 rfl rfl rfl ?_
                                                            refine GG_iload_n hk (pc' := 1080) 3 dL_law_1079 rfl rfl rfl ?_
                                                            refine GG_iconst hk (pc' := 1081) 1 dL_law_1080 rfl rfl ?_
                                                            refine GG_iadd hk (pc' := 1082) dL_law_1081 rfl ?_
                                                            refine GG_sld hk hX (pc' := 1083) dL_law_1082 rfl (fun v218 e_v218 => ?_)
                                                            refine GG_callVl hk (st := []) (pc' := 1086) mf_X7_mean mv_X7_mean LC7 rfl (c_X7_mean _ _ _ M v218 ) (by omega) tw_752 rfl rfl rfl (Nat.le_of_ble_eq_true rfl) dL_law_1083 rfl (fun z219 e_z219 => ?_)
                                                            refine GG_aload_n hk (pc' := 1087) 2 dL_law_1086 rfl rfl rfl ?_
                                                            refine GG_aload_n hk (pc' := 1088) 0 dL_law_1087 rfl rfl rfl ?_
                                                            refine GG_iload_n hk (pc' := 1089) 3 dL_law_1088 rfl rfl rfl ?_
                                                            refine GG_iconst hk (pc' := 1090) 1 dL_law_1089 rfl rfl ?_
                                                            refine GG_iadd hk (pc' := 1091) dL_law_1090 rfl ?_
                                                            refine GG_sld hk hX (pc' := 1092) dL_law_1091 rfl (fun v220 e_v220 => ?_)
                                                            refine GG_callVl hk (st := [.long z219.1]) (pc' := 1095) mf_X8_mean mv_X8_mean LC8 rfl (c_X8_mean _ _ _ z219.2 v220 ) (by omega) tw_1202 rfl rfl rfl (Nat.le_of_ble_eq_true rfl) dL_law_1092 rfl (fun z221 e_z221 => ?_)
                                                            refine GG_lcmp hk (pc' := 1096) dL_law_1095 rfl ?_
                                                            refine GG_if_eq hk 1275 (pc' := 1099) dL_law_1096 rfl (by decide) (fun c222 => ?_) (fun c222 => ?_)
                                                            · refine GG_iinc hk (pc' := 1278) 3 (l3 + 5) [(3, .int (l3 + 5)), (0, .ref b), (1, .ref (kh k + 0)), (2, .ref (kh k + 163))] dL_law_1275 rfl rfl rfl (by decide) rfl ?_
                                                              refine GG_goto hk 18 dL_law_1278 (by decide) ?_
                                                              refine GG_sub (L' := [(0, .ref b), (1, .ref (kh k + 0)), (2, .ref (kh k + 163)), (3, .int (l3 + 5))]) [1, 2, 3, 0] rfl ?_
                                                              exact ih z221.2 (l3 + 5) 
                                                            · refine GG_iconst hk (pc' := 1100) 0 dL_law_1099 rfl rfl ?_
                                                              exact GG_lawret hk hq dL_law_1100
                                                          · refine GG_if (fun c223 => ?_) (fun c223 => ?_)
                                                            · refine GG_tabIn hk 1101 27 c223 dL_law_32 (by decide) (by decide) rfl (by decide) ?_
                                                              refine GG_aload_n hk (pc' := 1102) 1 dL_law_1101 rfl rfl rfl ?_
                                                              refine GG_aload_n hk (pc' := 1103) 0 dL_law_1102 rfl rfl rfl ?_
                                                              refine GG_iload_n hk (pc' := 1104) 3 dL_law_1103 rfl rfl rfl ?_
                                                              refine GG_iconst hk (pc' := 1105) 1 dL_law_1104 rfl rfl ?_
                                                              refine GG_iadd hk (pc' := 1106) dL_law_1105 rfl ?_
                                                              refine GG_sld hk hX (pc' := 1107) dL_law_1106 rfl (fun v224 e_v224 => ?_)
                                                              refine GG_aload_n hk (pc' := 1108) 0 dL_law_1107 rfl rfl rfl ?_
                                                              refine GG_iload_n hk (pc' := 1109) 3 dL_law_1108 rfl rfl rfl ?_
                                                              refine GG_iconst hk (pc' := 1110) 2 dL_law_1109 rfl rfl ?_
                                                              refine GG_iadd hk (pc' := 1111) dL_law_1110 rfl ?_
                                                              refine GG_sld hk hX (pc' := 1112) dL_law_1111 rfl (fun v225 e_v225 => ?_)
                                                              refine GG_callVi hk (st := []) (pc' := 1115) mf_X7_whatIs mv_X7_whatIs LC7 rfl (c_X7_whatIs _ _ _ M v224 v225 ) (by omega) tw_756 rfl rfl rfl (Nat.le_of_ble_eq_true rfl) dL_law_1112 rfl (fun z226 e_z226 => ?_)
                                                              refine GG_aload_n hk (pc' := 1116) 2 dL_law_1115 rfl rfl rfl ?_
                                                              refine GG_aload_n hk (pc' := 1117) 0 dL_law_1116 rfl rfl rfl ?_
                                                              refine GG_iload_n hk (pc' := 1118) 3 dL_law_1117 rfl rfl rfl ?_
                                                              refine GG_iconst hk (pc' := 1119) 1 dL_law_1118 rfl rfl ?_
                                                              refine GG_iadd hk (pc' := 1120) dL_law_1119 rfl ?_
                                                              refine GG_sld hk hX (pc' := 1121) dL_law_1120 rfl (fun v227 e_v227 => ?_)
                                                              refine GG_aload_n hk (pc' := 1122) 0 dL_law_1121 rfl rfl rfl ?_
                                                              refine GG_iload_n hk (pc' := 1123) 3 dL_law_1122 rfl rfl rfl ?_
                                                              refine GG_iconst hk (pc' := 1124) 2 dL_law_1123 rfl rfl ?_
                                                              refine GG_iadd hk (pc' := 1125) dL_law_1124 rfl ?_
                                                              refine GG_sld hk hX (pc' := 1126) dL_law_1125 rfl (fun v228 e_v228 => ?_)
                                                              refine GG_callVi hk (st := [.int z226.1]) (pc' := 1129) mf_X8_whatIs mv_X8_whatIs LC8 rfl (c_X8_whatIs _ _ _ z226.2 v227 v228 ) (by omega) tw_1210 rfl rfl rfl (Nat.le_of_ble_eq_true rfl) dL_law_1126 rfl (fun z229 e_z229 => ?_)
                                                              refine GG_icmp_eq hk 1275 (pc' := 1132) dL_law_1129 rfl (by decide) (fun c230 => ?_) (fun c230 => ?_)
                                                              · refine GG_iinc hk (pc' := 1278) 3 (l3 + 5) [(3, .int (l3 + 5)), (0, .ref b), (1, .ref (kh k + 0)), (2, .ref (kh k + 163))] dL_law_1275 rfl rfl rfl (by decide) rfl ?_
                                                                refine GG_goto hk 18 dL_law_1278 (by decide) ?_
                                                                refine GG_sub (L' := [(0, .ref b), (1, .ref (kh k + 0)), (2, .ref (kh k + 163)), (3, .int (l3 + 5))]) [1, 2, 3, 0] rfl ?_
                                                                exact ih z229.2 (l3 + 5) 
                                                              · refine GG_iconst hk (pc' := 1133) 0 dL_law_1132 rfl rfl ?_
                                                                exact GG_lawret hk hq dL_law_1133
                                                            · refine GG_if (fun c231 => ?_) (fun c231 => ?_)
                                                              · refine GG_tabIn hk 1134 28 c231 dL_law_32 (by decide) (by decide) rfl (by decide) ?_
                                                                refine GG_aload_n hk (pc' := 1135) 1 dL_law_1134 rfl rfl rfl ?_
                                                                refine GG_aload_n hk (pc' := 1136) 0 dL_law_1135 rfl rfl rfl ?_
                                                                refine GG_iload_n hk (pc' := 1137) 3 dL_law_1136 rfl rfl rfl ?_
                                                                refine GG_iconst hk (pc' := 1138) 1 dL_law_1137 rfl rfl ?_
                                                                refine GG_iadd hk (pc' := 1139) dL_law_1138 rfl ?_
                                                                refine GG_sld hk hX (pc' := 1140) dL_law_1139 rfl (fun v232 e_v232 => ?_)
                                                                refine GG_callVi hk (st := []) (pc' := 1143) mf_X7_row mv_X7_row LC7 rfl (c_X7_row _ _ _ M v232 ) (by omega) tw_768 rfl rfl rfl (Nat.le_of_ble_eq_true rfl) dL_law_1140 rfl (fun z233 e_z233 => ?_)
                                                                refine GG_aload_n hk (pc' := 1144) 2 dL_law_1143 rfl rfl rfl ?_
                                                                refine GG_aload_n hk (pc' := 1145) 0 dL_law_1144 rfl rfl rfl ?_
                                                                refine GG_iload_n hk (pc' := 1146) 3 dL_law_1145 rfl rfl rfl ?_
                                                                refine GG_iconst hk (pc' := 1147) 1 dL_law_1146 rfl rfl ?_
                                                                refine GG_iadd hk (pc' := 1148) dL_law_1147 rfl ?_
                                                                refine GG_sld hk hX (pc' := 1149) dL_law_1148 rfl (fun v234 e_v234 => ?_)
                                                                refine GG_callVi hk (st := [.int z233.1]) (pc' := 1152) mf_X8_row mv_X8_row LC8 rfl (c_X8_row _ _ _ z233.2 v234 ) (by omega) tw_1222 rfl rfl rfl (Nat.le_of_ble_eq_true rfl) dL_law_1149 rfl (fun z235 e_z235 => ?_)
                                                                refine GG_icmp_eq hk 1275 (pc' := 1155) dL_law_1152 rfl (by decide) (fun c236 => ?_) (fun c236 => ?_)
                                                                · refine GG_iinc hk (pc' := 1278) 3 (l3 + 5) [(3, .int (l3 + 5)), (0, .ref b), (1, .ref (kh k + 0)), (2, .ref (kh k + 163))] dL_law_1275 rfl rfl rfl (by decide) rfl ?_
                                                                  refine GG_goto hk 18 dL_law_1278 (by decide) ?_
                                                                  refine GG_sub (L' := [(0, .ref b), (1, .ref (kh k + 0)), (2, .ref (kh k + 163)), (3, .int (l3 + 5))]) [1, 2, 3, 0] rfl ?_
                                                                  exact ih z235.2 (l3 + 5) 
                                                                · refine GG_iconst hk (pc' := 1156) 0 dL_law_1155 rfl rfl ?_
                                                                  exact GG_lawret hk hq dL_law_1156
                                                              · refine GG_if (fun c237 => ?_) (fun c237 => ?_)
                                                                · refine GG_tabIn hk 1157 29 c237 dL_law_32 (by decide) (by decide) rfl (by decide) ?_
                                                                  refine GG_aload_n hk (pc' := 1158) 1 dL_law_1157 rfl rfl rfl ?_
                                                                  refine GG_callVi hk (st := []) (pc' := 1161) mf_X7_judge mv_X7_judge LC7 rfl (c_X7_judge _ _ _ M  ) (by omega) tw_776 rfl rfl rfl (Nat.le_of_ble_eq_true rfl) dL_law_1158 rfl (fun z238 e_z238 => ?_)
                                                                  refine GG_aload_n hk (pc' := 1162) 2 dL_law_1161 rfl rfl rfl ?_
                                                                  refine GG_callVi hk (st := [.int z238.1]) (pc' := 1165) mf_X8_judge mv_X8_judge LC8 rfl (c_X8_judge _ _ _ z238.2  ) (by omega) tw_1226 rfl rfl rfl (Nat.le_of_ble_eq_true rfl) dL_law_1162 rfl (fun z239 e_z239 => ?_)
                                                                  refine GG_icmp_eq hk 1275 (pc' := 1168) dL_law_1165 rfl (by decide) (fun c240 => ?_) (fun c240 => ?_)
                                                                  · refine GG_iinc hk (pc' := 1278) 3 (l3 + 5) [(3, .int (l3 + 5)), (0, .ref b), (1, .ref (kh k + 0)), (2, .ref (kh k + 163))] dL_law_1275 rfl rfl rfl (by decide) rfl ?_
                                                                    refine GG_goto hk 18 dL_law_1278 (by decide) ?_
                                                                    refine GG_sub (L' := [(0, .ref b), (1, .ref (kh k + 0)), (2, .ref (kh k + 163)), (3, .int (l3 + 5))]) [1, 2, 3, 0] rfl ?_
                                                                    exact ih z239.2 (l3 + 5) 
                                                                  · refine GG_iconst hk (pc' := 1169) 0 dL_law_1168 rfl rfl ?_
                                                                    exact GG_lawret hk hq dL_law_1169
                                                                · refine GG_if (fun c241 => ?_) (fun c241 => ?_)
                                                                  · refine GG_tabIn hk 1170 30 c241 dL_law_32 (by decide) (by decide) rfl (by decide) ?_
                                                                    refine GG_aload_n hk (pc' := 1171) 1 dL_law_1170 rfl rfl rfl ?_
                                                                    refine GG_callVi hk (st := []) (pc' := 1174) mf_X7_clear mv_X7_clear LC7 rfl (c_X7_clear _ _ _ M  ) (by omega) tw_780 rfl rfl rfl (Nat.le_of_ble_eq_true rfl) dL_law_1171 rfl (fun z242 e_z242 => ?_)
                                                                    refine GG_aload_n hk (pc' := 1175) 2 dL_law_1174 rfl rfl rfl ?_
                                                                    refine GG_callVi hk (st := [.int z242.1]) (pc' := 1178) mf_X8_clear mv_X8_clear LC8 rfl (c_X8_clear _ _ _ z242.2  ) (by omega) tw_1230 rfl rfl rfl (Nat.le_of_ble_eq_true rfl) dL_law_1175 rfl (fun z243 e_z243 => ?_)
                                                                    refine GG_icmp_eq hk 1275 (pc' := 1181) dL_law_1178 rfl (by decide) (fun c244 => ?_) (fun c244 => ?_)
                                                                    · refine GG_iinc hk (pc' := 1278) 3 (l3 + 5) [(3, .int (l3 + 5)), (0, .ref b), (1, .ref (kh k + 0)), (2, .ref (kh k + 163))] dL_law_1275 rfl rfl rfl (by decide) rfl ?_
                                                                      refine GG_goto hk 18 dL_law_1278 (by decide) ?_
                                                                      refine GG_sub (L' := [(0, .ref b), (1, .ref (kh k + 0)), (2, .ref (kh k + 163)), (3, .int (l3 + 5))]) [1, 2, 3, 0] rfl ?_
                                                                      exact ih z243.2 (l3 + 5) 
                                                                    · refine GG_iconst hk (pc' := 1182) 0 dL_law_1181 rfl rfl ?_
                                                                      exact GG_lawret hk hq dL_law_1182
                                                                  · refine GG_if (fun c245 => ?_) (fun c245 => ?_)
                                                                    · refine GG_tabIn hk 1183 31 c245 dL_law_32 (by decide) (by decide) rfl (by decide) ?_
                                                                      refine GG_aload_n hk (pc' := 1184) 1 dL_law_1183 rfl rfl rfl ?_
                                                                      refine GG_aload_n hk (pc' := 1185) 0 dL_law_1184 rfl rfl rfl ?_
                                                                      refine GG_iload_n hk (pc' := 1186) 3 dL_law_1185 rfl rfl rfl ?_
                                                                      refine GG_iconst hk (pc' := 1187) 1 dL_law_1186 rfl rfl ?_
                                                                      refine GG_iadd hk (pc' := 1188) dL_law_1187 rfl ?_
                                                                      refine GG_sld hk hX (pc' := 1189) dL_law_1188 rfl (fun v246 e_v246 => ?_)
                                                                      refine GG_aload_n hk (pc' := 1190) 0 dL_law_1189 rfl rfl rfl ?_
                                                                      refine GG_iload_n hk (pc' := 1191) 3 dL_law_1190 rfl rfl rfl ?_
                                                                      refine GG_iconst hk (pc' := 1192) 2 dL_law_1191 rfl rfl ?_
                                                                      refine GG_iadd hk (pc' := 1193) dL_law_1192 rfl ?_
                                                                      refine GG_sld hk hX (pc' := 1194) dL_law_1193 rfl (fun v247 e_v247 => ?_)
                                                                      refine GG_aload_n hk (pc' := 1195) 0 dL_law_1194 rfl rfl rfl ?_
                                                                      refine GG_iload_n hk (pc' := 1196) 3 dL_law_1195 rfl rfl rfl ?_
                                                                      refine GG_iconst hk (pc' := 1197) 3 dL_law_1196 rfl rfl ?_
                                                                      refine GG_iadd hk (pc' := 1198) dL_law_1197 rfl ?_
                                                                      refine GG_sld hk hX (pc' := 1199) dL_law_1198 rfl (fun v248 e_v248 => ?_)
                                                                      refine GG_callVi hk (st := []) (pc' := 1202) mf_X7_lots mv_X7_lots LC7 rfl (c_X7_lots _ _ _ M v246 v247 v248 ) (by omega) tw_784 rfl rfl rfl (Nat.le_of_ble_eq_true rfl) dL_law_1199 rfl (fun z249 e_z249 => ?_)
                                                                      refine GG_aload_n hk (pc' := 1203) 2 dL_law_1202 rfl rfl rfl ?_
                                                                      refine GG_aload_n hk (pc' := 1204) 0 dL_law_1203 rfl rfl rfl ?_
                                                                      refine GG_iload_n hk (pc' := 1205) 3 dL_law_1204 rfl rfl rfl ?_
                                                                      refine GG_iconst hk (pc' := 1206) 1 dL_law_1205 rfl rfl ?_
                                                                      refine GG_iadd hk (pc' := 1207) dL_law_1206 rfl ?_
                                                                      refine GG_sld hk hX (pc' := 1208) dL_law_1207 rfl (fun v250 e_v250 => ?_)
                                                                      refine GG_aload_n hk (pc' := 1209) 0 dL_law_1208 rfl rfl rfl ?_
                                                                      refine GG_iload_n hk (pc' := 1210) 3 dL_law_1209 rfl rfl rfl ?_
                                                                      refine GG_iconst hk (pc' := 1211) 2 dL_law_1210 rfl rfl ?_
                                                                      refine GG_iadd hk (pc' := 1212) dL_law_1211 rfl ?_
                                                                      refine GG_sld hk hX (pc' := 1213) dL_law_1212 rfl (fun v251 e_v251 => ?_)
                                                                      refine GG_aload_n hk (pc' := 1214) 0 dL_law_1213 rfl rfl rfl ?_
                                                                      refine GG_iload_n hk (pc' := 1215) 3 dL_law_1214 rfl rfl rfl ?_
                                                                      refine GG_iconst hk (pc' := 1216) 3 dL_law_1215 rfl rfl ?_
                                                                      refine GG_iadd hk (pc' := 1217) dL_law_1216 rfl ?_
                                                                      refine GG_sld hk hX (pc' := 1218) dL_law_1217 rfl (fun v252 e_v252 => ?_)
                                                                      refine GG_callVi hk (st := [.int z249.1]) (pc' := 1221) mf_X8_lots mv_X8_lots LC8 rfl (c_X8_lots _ _ _ z249.2 v250 v251 v252 ) (by omega) tw_1234 rfl rfl rfl (Nat.le_of_ble_eq_true rfl) dL_law_1218 rfl (fun z253 e_z253 => ?_)
                                                                      refine GG_icmp_eq hk 1275 (pc' := 1224) dL_law_1221 rfl (by decide) (fun c254 => ?_) (fun c254 => ?_)
                                                                      · refine GG_iinc hk (pc' := 1278) 3 (l3 + 5) [(3, .int (l3 + 5)), (0, .ref b), (1, .ref (kh k + 0)), (2, .ref (kh k + 163))] dL_law_1275 rfl rfl rfl (by decide) rfl ?_
                                                                        refine GG_goto hk 18 dL_law_1278 (by decide) ?_
                                                                        refine GG_sub (L' := [(0, .ref b), (1, .ref (kh k + 0)), (2, .ref (kh k + 163)), (3, .int (l3 + 5))]) [1, 2, 3, 0] rfl ?_
                                                                        exact ih z253.2 (l3 + 5) 
                                                                      · refine GG_iconst hk (pc' := 1225) 0 dL_law_1224 rfl rfl ?_
                                                                        exact GG_lawret hk hq dL_law_1225
                                                                    · refine GG_if (fun c255 => ?_) (fun c255 => ?_)
                                                                      · refine GG_tabIn hk 1226 32 c255 dL_law_32 (by decide) (by decide) rfl (by decide) ?_
                                                                        refine GG_aload_n hk (pc' := 1227) 1 dL_law_1226 rfl rfl rfl ?_
                                                                        refine GG_callVi hk (st := []) (pc' := 1230) mf_X7_image mv_X7_image LC7 rfl (c_X7_image _ _ _ M  ) (by omega) tw_810 rfl rfl rfl (Nat.le_of_ble_eq_true rfl) dL_law_1227 rfl (fun z256 e_z256 => ?_)
                                                                        refine GG_aload_n hk (pc' := 1231) 2 dL_law_1230 rfl rfl rfl ?_
                                                                        refine GG_callVi hk (st := [.int z256.1]) (pc' := 1234) mf_X8_image mv_X8_image LC8 rfl (c_X8_image _ _ _ z256.2  ) (by omega) tw_1245 rfl rfl rfl (Nat.le_of_ble_eq_true rfl) dL_law_1231 rfl (fun z257 e_z257 => ?_)
                                                                        refine GG_icmp_eq hk 1275 (pc' := 1237) dL_law_1234 rfl (by decide) (fun c258 => ?_) (fun c258 => ?_)
                                                                        · refine GG_iinc hk (pc' := 1278) 3 (l3 + 5) [(3, .int (l3 + 5)), (0, .ref b), (1, .ref (kh k + 0)), (2, .ref (kh k + 163))] dL_law_1275 rfl rfl rfl (by decide) rfl ?_
                                                                          refine GG_goto hk 18 dL_law_1278 (by decide) ?_
                                                                          refine GG_sub (L' := [(0, .ref b), (1, .ref (kh k + 0)), (2, .ref (kh k + 163)), (3, .int (l3 + 5))]) [1, 2, 3, 0] rfl ?_
                                                                          exact ih z257.2 (l3 + 5) 
                                                                        · refine GG_iconst hk (pc' := 1238) 0 dL_law_1237 rfl rfl ?_
                                                                          exact GG_lawret hk hq dL_law_1238
                                                                      · refine GG_if (fun c259 => ?_) (fun c259 => ?_)
                                                                        · refine GG_tabIn hk 1239 33 c259 dL_law_32 (by decide) (by decide) rfl (by decide) ?_
                                                                          refine GG_aload_n hk (pc' := 1240) 1 dL_law_1239 rfl rfl rfl ?_
                                                                          refine GG_callVi hk (st := []) (pc' := 1243) mf_X7_on mv_X7_on LC7 rfl (c_X7_on _ _ _ M  ) (by omega) tw_820 rfl rfl rfl (Nat.le_of_ble_eq_true rfl) dL_law_1240 rfl (fun z260 e_z260 => ?_)
                                                                          refine GG_aload_n hk (pc' := 1244) 2 dL_law_1243 rfl rfl rfl ?_
                                                                          refine GG_callVi hk (st := [.int z260.1]) (pc' := 1247) mf_X8_on mv_X8_on LC8 rfl (c_X8_on _ _ _ z260.2  ) (by omega) tw_1253 rfl rfl rfl (Nat.le_of_ble_eq_true rfl) dL_law_1244 rfl (fun z261 e_z261 => ?_)
                                                                          refine GG_icmp_eq hk 1275 (pc' := 1250) dL_law_1247 rfl (by decide) (fun c262 => ?_) (fun c262 => ?_)
                                                                          · refine GG_iinc hk (pc' := 1278) 3 (l3 + 5) [(3, .int (l3 + 5)), (0, .ref b), (1, .ref (kh k + 0)), (2, .ref (kh k + 163))] dL_law_1275 rfl rfl rfl (by decide) rfl ?_
                                                                            refine GG_goto hk 18 dL_law_1278 (by decide) ?_
                                                                            refine GG_sub (L' := [(0, .ref b), (1, .ref (kh k + 0)), (2, .ref (kh k + 163)), (3, .int (l3 + 5))]) [1, 2, 3, 0] rfl ?_
                                                                            exact ih z261.2 (l3 + 5) 
                                                                          · refine GG_iconst hk (pc' := 1251) 0 dL_law_1250 rfl rfl ?_
                                                                            exact GG_lawret hk hq dL_law_1251
                                                                        · refine GG_if (fun c263 => ?_) (fun c263 => ?_)
                                                                          · refine GG_tabIn hk 1252 34 c263 dL_law_32 (by decide) (by decide) rfl (by decide) ?_
                                                                            refine GG_aload_n hk (pc' := 1253) 1 dL_law_1252 rfl rfl rfl ?_
                                                                            refine GG_aload_n hk (pc' := 1254) 0 dL_law_1253 rfl rfl rfl ?_
                                                                            refine GG_iload_n hk (pc' := 1255) 3 dL_law_1254 rfl rfl rfl ?_
                                                                            refine GG_iconst hk (pc' := 1256) 1 dL_law_1255 rfl rfl ?_
                                                                            refine GG_iadd hk (pc' := 1257) dL_law_1256 rfl ?_
                                                                            refine GG_sld hk hX (pc' := 1258) dL_law_1257 rfl (fun v264 e_v264 => ?_)
                                                                            refine GG_callVi hk (st := []) (pc' := 1261) mf_X7_count mv_X7_count LC7 rfl (c_X7_count _ _ _ M v264 ) (by omega) tw_824 rfl rfl rfl (Nat.le_of_ble_eq_true rfl) dL_law_1258 rfl (fun z265 e_z265 => ?_)
                                                                            refine GG_aload_n hk (pc' := 1262) 2 dL_law_1261 rfl rfl rfl ?_
                                                                            refine GG_aload_n hk (pc' := 1263) 0 dL_law_1262 rfl rfl rfl ?_
                                                                            refine GG_iload_n hk (pc' := 1264) 3 dL_law_1263 rfl rfl rfl ?_
                                                                            refine GG_iconst hk (pc' := 1265) 1 dL_law_1264 rfl rfl ?_
                                                                            refine GG_iadd hk (pc' := 1266) dL_law_1265 rfl ?_
                                                                            refine GG_sld hk hX (pc' := 1267) dL_law_1266 rfl (fun v266 e_v266 => ?_)
                                                                            refine GG_callVi hk (st := [.int z265.1]) (pc' := 1270) mf_X8_count mv_X8_count LC8 rfl (c_X8_count _ _ _ z265.2 v266 ) (by omega) tw_1257 rfl rfl rfl (Nat.le_of_ble_eq_true rfl) dL_law_1267 rfl (fun z267 e_z267 => ?_)
                                                                            refine GG_icmp_eq hk 1275 (pc' := 1273) dL_law_1270 rfl (by decide) (fun c268 => ?_) (fun c268 => ?_)
                                                                            · refine GG_iinc hk (pc' := 1278) 3 (l3 + 5) [(3, .int (l3 + 5)), (0, .ref b), (1, .ref (kh k + 0)), (2, .ref (kh k + 163))] dL_law_1275 rfl rfl rfl (by decide) rfl ?_
                                                                              refine GG_goto hk 18 dL_law_1278 (by decide) ?_
                                                                              refine GG_sub (L' := [(0, .ref b), (1, .ref (kh k + 0)), (2, .ref (kh k + 163)), (3, .int (l3 + 5))]) [1, 2, 3, 0] rfl ?_
                                                                              exact ih z267.2 (l3 + 5) 
                                                                            · refine GG_iconst hk (pc' := 1274) 0 dL_law_1273 rfl rfl ?_
                                                                              exact GG_lawret hk hq dL_law_1274
                                                                          · refine GG_tabOut hk 1275 dL_law_32 (sw_out_0_34 c3 c9 c13 c19 c29 c37 c47 c59 c71 c79 c87 c95 c105 c113 c123 c133 c141 c149 c155 c161 c169 c177 c189 c197 c201 c205 c217 c223 c231 c237 c241 c245 c255 c259 c263) (by decide) ?_
                                                                            refine GG_iinc hk (pc' := 1278) 3 (l3 + 5) [(3, .int (l3 + 5)), (0, .ref b), (1, .ref (kh k + 0)), (2, .ref (kh k + 163))] dL_law_1275 rfl rfl rfl (by decide) rfl ?_
                                                                            refine GG_goto hk 18 dL_law_1278 (by decide) ?_
                                                                            refine GG_sub (L' := [(0, .ref b), (1, .ref (kh k + 0)), (2, .ref (kh k + 163)), (3, .int (l3 + 5))]) [1, 2, 3, 0] rfl ?_
                                                                            exact ih M (l3 + 5) 
theorem NG_toM {α : Type} {k : KT} {q : α} {pc cn sn : Nat} {L : List (Nat × Value)} {st : List Value} {t : Option α} {M : Mem} (hc : cn = kcn k) (hs : sn = ksn k) (x : GG k q (wM k M) pc L st t) : GG k q (wN k 183 (fun i => EC (kC k) (kh k) i (M i)) cn sn) pc L st t := by
  subst hc; subst hs
  exact fun ht H locs hP => x ht H locs hP.1
set_option maxHeartbeats 4000000 in
theorem law_start {k : KT} {q : Int32} (xs : Nat → Int32) (Ln : Nat) {b : Nat} (hX : LX k b Ln xs) (hk : CX k cL_law RL 4 ret 613) (hq : RW k q) (hcn : kcn k = 183) (hsn : ksn k = 7198) (hRc : (kR k).cells = 600000) (hRs : (kR k).slots = 7302250) (E : Nat → va_E) :
    GG k q (wN k 0 E 0 0) 0 [(0, .ref b)] [] (f_L_law_18 xs Ln 1000 Minit (nI 0)) := by
  refine NG_new hk LC7 [.null, .null, .null, .null, .null, .null, .null, .null, .null, .int 0] (pc' := 3) tw_14 tw_15 tw_1 (by decide +kernel) (by omega) (by omega) dL_law_0 rfl ?_
  refine GG_dup hk (pc' := 4) dL_law_3 rfl rfl ?_
  refine NG_callI hk (o := 0) (pc' := 7) mf_X7_init tw_17 rfl (kX7_init _ _ _ (E := eu E 0 (.inr (7, [.null, .null, .null, .null, .null, .null, .null, .null, .null, .int 0]))) eu_self) (by omega) tw_16 ⟨by omega, by omega⟩ (Nat.le_of_ble_eq_true rfl) dL_law_4 rfl ?_
  refine NG_nN 163 rfl ?_
  refine NG_congr (E' := fun i => EC (kC k) (kh k) i (Minit i)) (fun i hi => by rw [if_neg (by omega)]) ?_
  refine GG_astore_n hk (pc' := 8) [(1, .ref (kh k + 0)), (0, .ref b)] dL_law_7 rfl rfl (by decide) rfl ?_
  refine NG_new hk LC8 [.null, .null, .null, .null, .null, .null, .null, .int 0, .int 0, .int 0, .int 0, .int 0, .int 0, .null, .null, .null, .null, .null, .null, .null, .null, .null, .null, .null, .int 0, .int 0, .int 0, .null] (pc' := 11) tw_836 tw_837 tw_9 (by decide +kernel) (by omega) (by omega) dL_law_8 rfl ?_
  refine GG_dup hk (pc' := 12) dL_law_11 rfl rfl ?_
  refine NG_callI hk (o := 163) (pc' := 15) mf_X8_init tw_839 rfl (kX8_init _ _ _ (E := eu (fun i => EC (kC k) (kh k) i (Minit i)) 163 (.inr (8, [.null, .null, .null, .null, .null, .null, .null, .int 0, .int 0, .int 0, .int 0, .int 0, .int 0, .null, .null, .null, .null, .null, .null, .null, .null, .null, .null, .null, .int 0, .int 0, .int 0, .null]))) eu_self) (by omega) tw_838 ⟨by omega, by omega⟩ (Nat.le_of_ble_eq_true rfl) dL_law_12 rfl ?_
  refine NG_congr (E' := fun i => EC (kC k) (kh k) i (Minit i)) (fun i hi => ?_) ?_
  · by_cases h : i < 163
    · rw [if_pos h, eu_ne (by omega)]
    · rw [if_neg h]
  refine GG_astore_n hk (pc' := 16) [(2, .ref (kh k + 163)), (1, .ref (kh k + 0)), (0, .ref b)] dL_law_15 rfl rfl (by decide) rfl ?_
  refine NG_toM (by omega) (by omega) ?_
  refine GG_iconst hk (pc' := 17) (nI 0) dL_law_16 rfl rfl ?_
  refine GG_istore_n hk (pc' := 18) [(3, .int (nI 0)), (2, .ref (kh k + 163)), (1, .ref (kh k + 0)), (0, .ref b)] dL_law_17 rfl rfl (by decide) rfl ?_
  refine GG_sub (L' := [(0, .ref b), (1, .ref (kh k + 0)), (2, .ref (kh k + 163)), (3, .int (nI 0))]) [3, 2, 1, 0] rfl ?_
  exact m_L_law_18 xs Ln hX hk hq 1000 Minit (nI 0)
