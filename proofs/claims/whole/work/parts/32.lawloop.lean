/-! ===== the law's loop ===== -/
def f_L_law_b1249 (ro : am_Ro) (k18 : Int32 → am_Mm → Option (Int32 × am_Mm)) (x3 : Int32) (m : am_Mm) : Option (Int32 × am_Mm) :=
  k18 (x3 + (6 : Int32)) m
def f_L_law_b18 (ro : am_Ro) : Nat → Int32 → am_Mm → Option (Int32 × am_Mm)
  | 0, _, _ => none
  | n + 1, x3, m =>
    if ((Int32.ofNat (ro 1).1) - (6 : Int32)) < x3 then
      some ((1 : Int32), m)
    else
      if am_in x3 (ro 1).1 = true then
        if (((ro 1).2 x3.toNatClampNeg) &&& (63 : Int32)) = (0 : Int32) then
          if am_in (x3 + (1 : Int32)) (ro 1).1 = true then
            if am_in (x3 + (2 : Int32)) (ro 1).1 = true then
              if am_in (x3 + (3 : Int32)) (ro 1).1 = true then
                (f_C_row ((ro 1).2 (x3 + (1 : Int32)).toNatClampNeg) ((ro 1).2 (x3 + (2 : Int32)).toNatClampNeg) ((ro 1).2 (x3 + (3 : Int32)).toNatClampNeg) m).bind fun q9 =>
                if am_in (x3 + (1 : Int32)) (ro 1).1 = true then
                  if am_in (x3 + (2 : Int32)) (ro 1).1 = true then
                    if am_in (x3 + (3 : Int32)) (ro 1).1 = true then
                      (f_M_row ((ro 1).2 (x3 + (1 : Int32)).toNatClampNeg) ((ro 1).2 (x3 + (2 : Int32)).toNatClampNeg) ((ro 1).2 (x3 + (3 : Int32)).toNatClampNeg) q9.2).bind fun q15 =>
                      if q9.1 = q15.1 then
                        f_L_law_b1249 ro (f_L_law_b18 ro n) x3 q15.2
                      else
                        some ((0 : Int32), q15.2)
                    else none
                  else none
                else none
              else none
            else none
          else none
        else
          if (((ro 1).2 x3.toNatClampNeg) &&& (63 : Int32)) = (1 : Int32) then
            if am_in (x3 + (1 : Int32)) (ro 1).1 = true then
              if am_in (x3 + (2 : Int32)) (ro 1).1 = true then
                if am_in (x3 + (3 : Int32)) (ro 1).1 = true then
                  (f_C_set ((ro 1).2 (x3 + (1 : Int32)).toNatClampNeg) ((ro 1).2 (x3 + (2 : Int32)).toNatClampNeg) ((ro 1).2 (x3 + (3 : Int32)).toNatClampNeg) m).bind fun q23 =>
                  if am_in (x3 + (1 : Int32)) (ro 1).1 = true then
                    if am_in (x3 + (2 : Int32)) (ro 1).1 = true then
                      if am_in (x3 + (3 : Int32)) (ro 1).1 = true then
                        (f_M_set ((ro 1).2 (x3 + (1 : Int32)).toNatClampNeg) ((ro 1).2 (x3 + (2 : Int32)).toNatClampNeg) ((ro 1).2 (x3 + (3 : Int32)).toNatClampNeg) q23.2).bind fun q29 =>
                        if q23.1 = q29.1 then
                          f_L_law_b1249 ro (f_L_law_b18 ro n) x3 q29.2
                        else
                          some ((0 : Int32), q29.2)
                      else none
                    else none
                  else none
                else none
              else none
            else none
          else
            if (((ro 1).2 x3.toNatClampNeg) &&& (63 : Int32)) = (2 : Int32) then
              if am_in (x3 + (1 : Int32)) (ro 1).1 = true then
                if am_in (x3 + (2 : Int32)) (ro 1).1 = true then
                  if am_in (x3 + (3 : Int32)) (ro 1).1 = true then
                    if am_in (x3 + (4 : Int32)) (ro 1).1 = true then
                      if am_in (x3 + (5 : Int32)) (ro 1).1 = true then
                        (f_C_copy ((ro 1).2 (x3 + (1 : Int32)).toNatClampNeg) ((ro 1).2 (x3 + (2 : Int32)).toNatClampNeg) ((ro 1).2 (x3 + (3 : Int32)).toNatClampNeg) ((ro 1).2 (x3 + (4 : Int32)).toNatClampNeg) ((ro 1).2 (x3 + (5 : Int32)).toNatClampNeg) m).bind fun q39 =>
                        if am_in (x3 + (1 : Int32)) (ro 1).1 = true then
                          if am_in (x3 + (2 : Int32)) (ro 1).1 = true then
                            if am_in (x3 + (3 : Int32)) (ro 1).1 = true then
                              if am_in (x3 + (4 : Int32)) (ro 1).1 = true then
                                if am_in (x3 + (5 : Int32)) (ro 1).1 = true then
                                  (f_M_copy ((ro 1).2 (x3 + (1 : Int32)).toNatClampNeg) ((ro 1).2 (x3 + (2 : Int32)).toNatClampNeg) ((ro 1).2 (x3 + (3 : Int32)).toNatClampNeg) ((ro 1).2 (x3 + (4 : Int32)).toNatClampNeg) ((ro 1).2 (x3 + (5 : Int32)).toNatClampNeg) q39.2).bind fun q47 =>
                                  if q39.1 = q47.1 then
                                    f_L_law_b1249 ro (f_L_law_b18 ro n) x3 q47.2
                                  else
                                    some ((0 : Int32), q47.2)
                                else none
                              else none
                            else none
                          else none
                        else none
                      else none
                    else none
                  else none
                else none
              else none
            else
              if (((ro 1).2 x3.toNatClampNeg) &&& (63 : Int32)) = (3 : Int32) then
                if am_in (x3 + (1 : Int32)) (ro 1).1 = true then
                  (f_C_drop ((ro 1).2 (x3 + (1 : Int32)).toNatClampNeg) m).bind fun q53 =>
                  if am_in (x3 + (1 : Int32)) (ro 1).1 = true then
                    (f_M_drop ((ro 1).2 (x3 + (1 : Int32)).toNatClampNeg) q53.2).bind fun q57 =>
                    if q53.1 = q57.1 then
                      f_L_law_b1249 ro (f_L_law_b18 ro n) x3 q57.2
                    else
                      some ((0 : Int32), q57.2)
                  else none
                else none
              else
                if (((ro 1).2 x3.toNatClampNeg) &&& (63 : Int32)) = (4 : Int32) then
                  if am_in (x3 + (1 : Int32)) (ro 1).1 = true then
                    (f_C_feed ((ro 1).2 (x3 + (1 : Int32)).toNatClampNeg) m).bind fun q63 =>
                    if am_in (x3 + (1 : Int32)) (ro 1).1 = true then
                      (f_M_feed ((ro 1).2 (x3 + (1 : Int32)).toNatClampNeg) q63.2).bind fun q67 =>
                      if q63.1 = q67.1 then
                        f_L_law_b1249 ro (f_L_law_b18 ro n) x3 q67.2
                      else
                        some ((0 : Int32), q67.2)
                    else none
                  else none
                else
                  if (((ro 1).2 x3.toNatClampNeg) &&& (63 : Int32)) = (5 : Int32) then
                    (f_C_polygon m).bind fun q72 =>
                    (f_M_polygon q72.2).bind fun q75 =>
                    if q72.1 = q75.1 then
                      f_L_law_b1249 ro (f_L_law_b18 ro n) x3 q75.2
                    else
                      some ((0 : Int32), q75.2)
                  else
                    if (((ro 1).2 x3.toNatClampNeg) &&& (63 : Int32)) = (6 : Int32) then
                      (f_C_fault m).bind fun q80 =>
                      (f_M_fault q80.2).bind fun q83 =>
                      if q80.1 = q83.1 then
                        f_L_law_b1249 ro (f_L_law_b18 ro n) x3 q83.2
                      else
                        some ((0 : Int32), q83.2)
                    else
                      if (((ro 1).2 x3.toNatClampNeg) &&& (63 : Int32)) = (7 : Int32) then
                        (f_C_undo m).bind fun q88 =>
                        (f_M_undo q88.2).bind fun q91 =>
                        if q88.1 = q91.1 then
                          f_L_law_b1249 ro (f_L_law_b18 ro n) x3 q91.2
                        else
                          some ((0 : Int32), q91.2)
                      else
                        if (((ro 1).2 x3.toNatClampNeg) &&& (63 : Int32)) = (8 : Int32) then
                          if am_in (x3 + (1 : Int32)) (ro 1).1 = true then
                            if am_in (x3 + (2 : Int32)) (ro 1).1 = true then
                              (f_C_cut ((ro 1).2 (x3 + (1 : Int32)).toNatClampNeg) ((ro 1).2 (x3 + (2 : Int32)).toNatClampNeg) m).bind fun q98 =>
                              if am_in (x3 + (1 : Int32)) (ro 1).1 = true then
                                if am_in (x3 + (2 : Int32)) (ro 1).1 = true then
                                  (f_M_cut ((ro 1).2 (x3 + (1 : Int32)).toNatClampNeg) ((ro 1).2 (x3 + (2 : Int32)).toNatClampNeg) q98.2).bind fun q103 =>
                                  if q98.1 = q103.1 then
                                    f_L_law_b1249 ro (f_L_law_b18 ro n) x3 q103.2
                                  else
                                    some ((0 : Int32), q103.2)
                                else none
                              else none
                            else none
                          else none
                        else
                          if (((ro 1).2 x3.toNatClampNeg) &&& (63 : Int32)) = (9 : Int32) then
                            if am_in (x3 + (1 : Int32)) (ro 1).1 = true then
                              (f_C_join ((ro 1).2 (x3 + (1 : Int32)).toNatClampNeg) m).bind fun q109 =>
                              if am_in (x3 + (1 : Int32)) (ro 1).1 = true then
                                (f_M_join ((ro 1).2 (x3 + (1 : Int32)).toNatClampNeg) q109.2).bind fun q113 =>
                                if q109.1 = q113.1 then
                                  f_L_law_b1249 ro (f_L_law_b18 ro n) x3 q113.2
                                else
                                  some ((0 : Int32), q113.2)
                              else none
                            else none
                          else
                            if (((ro 1).2 x3.toNatClampNeg) &&& (63 : Int32)) = (10 : Int32) then
                              if am_in (x3 + (1 : Int32)) (ro 1).1 = true then
                                (f_C_flip ((ro 1).2 (x3 + (1 : Int32)).toNatClampNeg) m).bind fun q119 =>
                                if am_in (x3 + (1 : Int32)) (ro 1).1 = true then
                                  (f_M_flip ((ro 1).2 (x3 + (1 : Int32)).toNatClampNeg) q119.2).bind fun q123 =>
                                  if q119.1 = q123.1 then
                                    f_L_law_b1249 ro (f_L_law_b18 ro n) x3 q123.2
                                  else
                                    some ((0 : Int32), q123.2)
                                else none
                              else none
                            else
                              if (((ro 1).2 x3.toNatClampNeg) &&& (63 : Int32)) = (11 : Int32) then
                                if am_in (x3 + (1 : Int32)) (ro 1).1 = true then
                                  (f_C_turn ((ro 1).2 (x3 + (1 : Int32)).toNatClampNeg) m).bind fun q129 =>
                                  if am_in (x3 + (1 : Int32)) (ro 1).1 = true then
                                    (f_M_turn ((ro 1).2 (x3 + (1 : Int32)).toNatClampNeg) q129.2).bind fun q133 =>
                                    if q129.1 = q133.1 then
                                      f_L_law_b1249 ro (f_L_law_b18 ro n) x3 q133.2
                                    else
                                      some ((0 : Int32), q133.2)
                                  else none
                                else none
                              else
                                if (((ro 1).2 x3.toNatClampNeg) &&& (63 : Int32)) = (12 : Int32) then
                                  (f_C_mirror m).bind fun q138 =>
                                  (f_M_mirror q138.2).bind fun q141 =>
                                  if q138.1 = q141.1 then
                                    f_L_law_b1249 ro (f_L_law_b18 ro n) x3 q141.2
                                  else
                                    some ((0 : Int32), q141.2)
                                else
                                  if (((ro 1).2 x3.toNatClampNeg) &&& (63 : Int32)) = (13 : Int32) then
                                    if am_in (x3 + (1 : Int32)) (ro 1).1 = true then
                                      if am_in (x3 + (2 : Int32)) (ro 1).1 = true then
                                        (f_C_become ((ro 1).2 (x3 + (1 : Int32)).toNatClampNeg) ((ro 1).2 (x3 + (2 : Int32)).toNatClampNeg) m).bind fun q148 =>
                                        if am_in (x3 + (1 : Int32)) (ro 1).1 = true then
                                          if am_in (x3 + (2 : Int32)) (ro 1).1 = true then
                                            (f_M_become ((ro 1).2 (x3 + (1 : Int32)).toNatClampNeg) ((ro 1).2 (x3 + (2 : Int32)).toNatClampNeg) q148.2).bind fun q153 =>
                                            if q148.1 = q153.1 then
                                              f_L_law_b1249 ro (f_L_law_b18 ro n) x3 q153.2
                                            else
                                              some ((0 : Int32), q153.2)
                                          else none
                                        else none
                                      else none
                                    else none
                                  else
                                    if (((ro 1).2 x3.toNatClampNeg) &&& (63 : Int32)) = (14 : Int32) then
                                      if am_in (x3 + (1 : Int32)) (ro 1).1 = true then
                                        if am_in (x3 + (2 : Int32)) (ro 1).1 = true then
                                          (f_C_number ((ro 1).2 (x3 + (1 : Int32)).toNatClampNeg) ((ro 1).2 (x3 + (2 : Int32)).toNatClampNeg) m).bind fun q160 =>
                                          if am_in (x3 + (1 : Int32)) (ro 1).1 = true then
                                            if am_in (x3 + (2 : Int32)) (ro 1).1 = true then
                                              (f_M_number ((ro 1).2 (x3 + (1 : Int32)).toNatClampNeg) ((ro 1).2 (x3 + (2 : Int32)).toNatClampNeg) q160.2).bind fun q165 =>
                                              if q160.1 = q165.1 then
                                                f_L_law_b1249 ro (f_L_law_b18 ro n) x3 q165.2
                                              else
                                                some ((0 : Int32), q165.2)
                                            else none
                                          else none
                                        else none
                                      else none
                                    else
                                      if (((ro 1).2 x3.toNatClampNeg) &&& (63 : Int32)) = (15 : Int32) then
                                        if am_in (x3 + (1 : Int32)) (ro 1).1 = true then
                                          (f_C_lay ((ro 1).2 (x3 + (1 : Int32)).toNatClampNeg) m).bind fun q171 =>
                                          if am_in (x3 + (1 : Int32)) (ro 1).1 = true then
                                            (f_M_lay ((ro 1).2 (x3 + (1 : Int32)).toNatClampNeg) q171.2).bind fun q175 =>
                                            if q171.1 = q175.1 then
                                              f_L_law_b1249 ro (f_L_law_b18 ro n) x3 q175.2
                                            else
                                              some ((0 : Int32), q175.2)
                                          else none
                                        else none
                                      else
                                        if (((ro 1).2 x3.toNatClampNeg) &&& (63 : Int32)) = (16 : Int32) then
                                          if am_in (x3 + (1 : Int32)) (ro 1).1 = true then
                                            if am_in (x3 + (2 : Int32)) (ro 1).1 = true then
                                              (f_C_corner ((ro 1).2 (x3 + (1 : Int32)).toNatClampNeg) ((ro 1).2 (x3 + (2 : Int32)).toNatClampNeg) m).bind fun q182 =>
                                              if am_in (x3 + (1 : Int32)) (ro 1).1 = true then
                                                if am_in (x3 + (2 : Int32)) (ro 1).1 = true then
                                                  (f_M_corner ((ro 1).2 (x3 + (1 : Int32)).toNatClampNeg) ((ro 1).2 (x3 + (2 : Int32)).toNatClampNeg) q182.2).bind fun q187 =>
                                                  if q182.1 = q187.1 then
                                                    f_L_law_b1249 ro (f_L_law_b18 ro n) x3 q187.2
                                                  else
                                                    some ((0 : Int32), q187.2)
                                                else none
                                              else none
                                            else none
                                          else none
                                        else
                                          if (((ro 1).2 x3.toNatClampNeg) &&& (63 : Int32)) = (17 : Int32) then
                                            if am_in (x3 + (1 : Int32)) (ro 1).1 = true then
                                              if am_in (x3 + (2 : Int32)) (ro 1).1 = true then
                                                (f_C_cutOf ((ro 1).2 (x3 + (1 : Int32)).toNatClampNeg) ((ro 1).2 (x3 + (2 : Int32)).toNatClampNeg) m).bind fun q194 =>
                                                if am_in (x3 + (1 : Int32)) (ro 1).1 = true then
                                                  if am_in (x3 + (2 : Int32)) (ro 1).1 = true then
                                                    (f_M_cutOf ((ro 1).2 (x3 + (1 : Int32)).toNatClampNeg) ((ro 1).2 (x3 + (2 : Int32)).toNatClampNeg) q194.2).bind fun q199 =>
                                                    if q194.1 = q199.1 then
                                                      f_L_law_b1249 ro (f_L_law_b18 ro n) x3 q199.2
                                                    else
                                                      some ((0 : Int32), q199.2)
                                                  else none
                                                else none
                                              else none
                                            else none
                                          else
                                            if (((ro 1).2 x3.toNatClampNeg) &&& (63 : Int32)) = (18 : Int32) then
                                              if am_in (x3 + (1 : Int32)) (ro 1).1 = true then
                                                if am_in (x3 + (2 : Int32)) (ro 1).1 = true then
                                                  (f_C_frieze ((ro 1).2 (x3 + (1 : Int32)).toNatClampNeg) ((ro 1).2 (x3 + (2 : Int32)).toNatClampNeg) m).bind fun q206 =>
                                                  if am_in (x3 + (1 : Int32)) (ro 1).1 = true then
                                                    if am_in (x3 + (2 : Int32)) (ro 1).1 = true then
                                                      (f_M_frieze ((ro 1).2 (x3 + (1 : Int32)).toNatClampNeg) ((ro 1).2 (x3 + (2 : Int32)).toNatClampNeg) q206.2).bind fun q211 =>
                                                      if (lg_cmp q206.1 q211.1) = (0 : Int32) then
                                                        f_L_law_b1249 ro (f_L_law_b18 ro n) x3 q211.2
                                                      else
                                                        some ((0 : Int32), q211.2)
                                                    else none
                                                  else none
                                                else none
                                              else none
                                            else
                                              if (((ro 1).2 x3.toNatClampNeg) &&& (63 : Int32)) = (19 : Int32) then
                                                if am_in (x3 + (1 : Int32)) (ro 1).1 = true then
                                                  (f_C_whole ((ro 1).2 (x3 + (1 : Int32)).toNatClampNeg) m).bind fun q217 =>
                                                  if am_in (x3 + (1 : Int32)) (ro 1).1 = true then
                                                    (f_M_whole ((ro 1).2 (x3 + (1 : Int32)).toNatClampNeg) q217.2).bind fun q221 =>
                                                    if q217.1 = q221.1 then
                                                      f_L_law_b1249 ro (f_L_law_b18 ro n) x3 q221.2
                                                    else
                                                      some ((0 : Int32), q221.2)
                                                  else none
                                                else none
                                              else
                                                if (((ro 1).2 x3.toNatClampNeg) &&& (63 : Int32)) = (20 : Int32) then
                                                  if am_in (x3 + (1 : Int32)) (ro 1).1 = true then
                                                    (f_C_piece ((ro 1).2 (x3 + (1 : Int32)).toNatClampNeg) m).bind fun q227 =>
                                                    if am_in (x3 + (1 : Int32)) (ro 1).1 = true then
                                                      (f_M_piece ((ro 1).2 (x3 + (1 : Int32)).toNatClampNeg) q227.2).bind fun q231 =>
                                                      if q227.1 = q231.1 then
                                                        f_L_law_b1249 ro (f_L_law_b18 ro n) x3 q231.2
                                                      else
                                                        some ((0 : Int32), q231.2)
                                                    else none
                                                  else none
                                                else
                                                  if (((ro 1).2 x3.toNatClampNeg) &&& (63 : Int32)) = (21 : Int32) then
                                                    if am_in (x3 + (1 : Int32)) (ro 1).1 = true then
                                                      if am_in (x3 + (2 : Int32)) (ro 1).1 = true then
                                                        (f_C_back ((ro 1).2 (x3 + (1 : Int32)).toNatClampNeg) ((ro 1).2 (x3 + (2 : Int32)).toNatClampNeg) m).bind fun q238 =>
                                                        if am_in (x3 + (1 : Int32)) (ro 1).1 = true then
                                                          if am_in (x3 + (2 : Int32)) (ro 1).1 = true then
                                                            (f_M_back ((ro 1).2 (x3 + (1 : Int32)).toNatClampNeg) ((ro 1).2 (x3 + (2 : Int32)).toNatClampNeg) q238.2).bind fun q243 =>
                                                            if q238.1 = q243.1 then
                                                              f_L_law_b1249 ro (f_L_law_b18 ro n) x3 q243.2
                                                            else
                                                              some ((0 : Int32), q243.2)
                                                          else none
                                                        else none
                                                      else none
                                                    else none
                                                  else
                                                    if (((ro 1).2 x3.toNatClampNeg) &&& (63 : Int32)) = (22 : Int32) then
                                                      (f_C_ways ro m).bind fun q248 =>
                                                      (f_M_ways q248.2).bind fun q251 =>
                                                      if q248.1 = q251.1 then
                                                        f_L_law_b1249 ro (f_L_law_b18 ro n) x3 q251.2
                                                      else
                                                        some ((0 : Int32), q251.2)
                                                    else
                                                      if (((ro 1).2 x3.toNatClampNeg) &&& (63 : Int32)) = (23 : Int32) then
                                                        if am_in (x3 + (1 : Int32)) (ro 1).1 = true then
                                                          (f_C_likes ((ro 1).2 (x3 + (1 : Int32)).toNatClampNeg) m).bind fun q257 =>
                                                          if am_in (x3 + (1 : Int32)) (ro 1).1 = true then
                                                            (f_M_likes ((ro 1).2 (x3 + (1 : Int32)).toNatClampNeg) q257.2).bind fun q261 =>
                                                            if q257.1 = q261.1 then
                                                              f_L_law_b1249 ro (f_L_law_b18 ro n) x3 q261.2
                                                            else
                                                              some ((0 : Int32), q261.2)
                                                          else none
                                                        else none
                                                      else
                                                        if (((ro 1).2 x3.toNatClampNeg) &&& (63 : Int32)) = (24 : Int32) then
                                                          if am_in (x3 + (1 : Int32)) (ro 1).1 = true then
                                                            (f_C_flips ((ro 1).2 (x3 + (1 : Int32)).toNatClampNeg) m).bind fun q267 =>
                                                            if am_in (x3 + (1 : Int32)) (ro 1).1 = true then
                                                              (f_M_flips ((ro 1).2 (x3 + (1 : Int32)).toNatClampNeg) q267.2).bind fun q271 =>
                                                              if q267.1 = q271.1 then
                                                                f_L_law_b1249 ro (f_L_law_b18 ro n) x3 q271.2
                                                              else
                                                                some ((0 : Int32), q271.2)
                                                            else none
                                                          else none
                                                        else
                                                          if (((ro 1).2 x3.toNatClampNeg) &&& (63 : Int32)) = (25 : Int32) then
                                                            if am_in (x3 + (1 : Int32)) (ro 1).1 = true then
                                                              if am_in (x3 + (2 : Int32)) (ro 1).1 = true then
                                                                (f_C_sets ((ro 1).2 (x3 + (1 : Int32)).toNatClampNeg) ((ro 1).2 (x3 + (2 : Int32)).toNatClampNeg) m).bind fun q278 =>
                                                                if am_in (x3 + (1 : Int32)) (ro 1).1 = true then
                                                                  if am_in (x3 + (2 : Int32)) (ro 1).1 = true then
                                                                    (f_M_sets ((ro 1).2 (x3 + (1 : Int32)).toNatClampNeg) ((ro 1).2 (x3 + (2 : Int32)).toNatClampNeg) q278.2).bind fun q283 =>
                                                                    if q278.1 = q283.1 then
                                                                      f_L_law_b1249 ro (f_L_law_b18 ro n) x3 q283.2
                                                                    else
                                                                      some ((0 : Int32), q283.2)
                                                                  else none
                                                                else none
                                                              else none
                                                            else none
                                                          else
                                                            if (((ro 1).2 x3.toNatClampNeg) &&& (63 : Int32)) = (26 : Int32) then
                                                              if am_in (x3 + (1 : Int32)) (ro 1).1 = true then
                                                                if am_in (x3 + (2 : Int32)) (ro 1).1 = true then
                                                                  if am_in (x3 + (3 : Int32)) (ro 1).1 = true then
                                                                    if am_in (x3 + (4 : Int32)) (ro 1).1 = true then
                                                                      if am_in (x3 + (5 : Int32)) (ro 1).1 = true then
                                                                        (f_C_who ((ro 1).2 (x3 + (1 : Int32)).toNatClampNeg) ((ro 1).2 (x3 + (2 : Int32)).toNatClampNeg) ((ro 1).2 (x3 + (3 : Int32)).toNatClampNeg) ((ro 1).2 (x3 + (4 : Int32)).toNatClampNeg) ((ro 1).2 (x3 + (5 : Int32)).toNatClampNeg) m).bind fun q293 =>
                                                                        if am_in (x3 + (1 : Int32)) (ro 1).1 = true then
                                                                          if am_in (x3 + (2 : Int32)) (ro 1).1 = true then
                                                                            if am_in (x3 + (3 : Int32)) (ro 1).1 = true then
                                                                              if am_in (x3 + (4 : Int32)) (ro 1).1 = true then
                                                                                if am_in (x3 + (5 : Int32)) (ro 1).1 = true then
                                                                                  (f_M_who ((ro 1).2 (x3 + (1 : Int32)).toNatClampNeg) ((ro 1).2 (x3 + (2 : Int32)).toNatClampNeg) ((ro 1).2 (x3 + (3 : Int32)).toNatClampNeg) ((ro 1).2 (x3 + (4 : Int32)).toNatClampNeg) ((ro 1).2 (x3 + (5 : Int32)).toNatClampNeg) q293.2).bind fun q301 =>
                                                                                  if q293.1 = q301.1 then
                                                                                    f_L_law_b1249 ro (f_L_law_b18 ro n) x3 q301.2
                                                                                  else
                                                                                    some ((0 : Int32), q301.2)
                                                                                else none
                                                                              else none
                                                                            else none
                                                                          else none
                                                                        else none
                                                                      else none
                                                                    else none
                                                                  else none
                                                                else none
                                                              else none
                                                            else
                                                              if (((ro 1).2 x3.toNatClampNeg) &&& (63 : Int32)) = (27 : Int32) then
                                                                if am_in (x3 + (1 : Int32)) (ro 1).1 = true then
                                                                  if am_in (x3 + (2 : Int32)) (ro 1).1 = true then
                                                                    if am_in (x3 + (3 : Int32)) (ro 1).1 = true then
                                                                      (f_C_lost ((ro 1).2 (x3 + (1 : Int32)).toNatClampNeg) ((ro 1).2 (x3 + (2 : Int32)).toNatClampNeg) ((ro 1).2 (x3 + (3 : Int32)).toNatClampNeg) m).bind fun q309 =>
                                                                      if am_in (x3 + (1 : Int32)) (ro 1).1 = true then
                                                                        if am_in (x3 + (2 : Int32)) (ro 1).1 = true then
                                                                          if am_in (x3 + (3 : Int32)) (ro 1).1 = true then
                                                                            (f_M_lost ((ro 1).2 (x3 + (1 : Int32)).toNatClampNeg) ((ro 1).2 (x3 + (2 : Int32)).toNatClampNeg) ((ro 1).2 (x3 + (3 : Int32)).toNatClampNeg) q309.2).bind fun q315 =>
                                                                            if (lg_cmp q309.1 q315.1) = (0 : Int32) then
                                                                              f_L_law_b1249 ro (f_L_law_b18 ro n) x3 q315.2
                                                                            else
                                                                              some ((0 : Int32), q315.2)
                                                                          else none
                                                                        else none
                                                                      else none
                                                                    else none
                                                                  else none
                                                                else none
                                                              else
                                                                if (((ro 1).2 x3.toNatClampNeg) &&& (63 : Int32)) = (28 : Int32) then
                                                                  if am_in (x3 + (1 : Int32)) (ro 1).1 = true then
                                                                    if am_in (x3 + (2 : Int32)) (ro 1).1 = true then
                                                                      if am_in (x3 + (3 : Int32)) (ro 1).1 = true then
                                                                        (f_C_drawn ((ro 1).2 (x3 + (1 : Int32)).toNatClampNeg) ((ro 1).2 (x3 + (2 : Int32)).toNatClampNeg) ((ro 1).2 (x3 + (3 : Int32)).toNatClampNeg) m).bind fun q323 =>
                                                                        if am_in (x3 + (1 : Int32)) (ro 1).1 = true then
                                                                          if am_in (x3 + (2 : Int32)) (ro 1).1 = true then
                                                                            if am_in (x3 + (3 : Int32)) (ro 1).1 = true then
                                                                              (f_M_drawn ((ro 1).2 (x3 + (1 : Int32)).toNatClampNeg) ((ro 1).2 (x3 + (2 : Int32)).toNatClampNeg) ((ro 1).2 (x3 + (3 : Int32)).toNatClampNeg) q323.2).bind fun q329 =>
                                                                              if q323.1 = q329.1 then
                                                                                f_L_law_b1249 ro (f_L_law_b18 ro n) x3 q329.2
                                                                              else
                                                                                some ((0 : Int32), q329.2)
                                                                            else none
                                                                          else none
                                                                        else none
                                                                      else none
                                                                    else none
                                                                  else none
                                                                else
                                                                  if (((ro 1).2 x3.toNatClampNeg) &&& (63 : Int32)) = (29 : Int32) then
                                                                    if am_in (x3 + (1 : Int32)) (ro 1).1 = true then
                                                                      (f_C_image ((ro 1).2 (x3 + (1 : Int32)).toNatClampNeg) m).bind fun q335 =>
                                                                      if am_in (x3 + (1 : Int32)) (ro 1).1 = true then
                                                                        (f_M_image ((ro 1).2 (x3 + (1 : Int32)).toNatClampNeg) q335.2).bind fun q339 =>
                                                                        if q335.1 = q339.1 then
                                                                          f_L_law_b1249 ro (f_L_law_b18 ro n) x3 q339.2
                                                                        else
                                                                          some ((0 : Int32), q339.2)
                                                                      else none
                                                                    else none
                                                                  else
                                                                    if (((ro 1).2 x3.toNatClampNeg) &&& (63 : Int32)) = (30 : Int32) then
                                                                      if am_in (x3 + (1 : Int32)) (ro 1).1 = true then
                                                                        (f_C_restore ((ro 1).2 (x3 + (1 : Int32)).toNatClampNeg) m).bind fun q345 =>
                                                                        if am_in (x3 + (1 : Int32)) (ro 1).1 = true then
                                                                          (f_M_restore ((ro 1).2 (x3 + (1 : Int32)).toNatClampNeg) q345.2).bind fun q349 =>
                                                                          if q345.1 = q349.1 then
                                                                            f_L_law_b1249 ro (f_L_law_b18 ro n) x3 q349.2
                                                                          else
                                                                            some ((0 : Int32), q349.2)
                                                                        else none
                                                                      else none
                                                                    else
                                                                      if (((ro 1).2 x3.toNatClampNeg) &&& (63 : Int32)) = (31 : Int32) then
                                                                        if am_in (x3 + (1 : Int32)) (ro 1).1 = true then
                                                                          (f_C_kind ((ro 1).2 (x3 + (1 : Int32)).toNatClampNeg) m).bind fun q355 =>
                                                                          if am_in (x3 + (1 : Int32)) (ro 1).1 = true then
                                                                            (f_M_kind ((ro 1).2 (x3 + (1 : Int32)).toNatClampNeg) q355.2).bind fun q359 =>
                                                                            if q355.1 = q359.1 then
                                                                              f_L_law_b1249 ro (f_L_law_b18 ro n) x3 q359.2
                                                                            else
                                                                              some ((0 : Int32), q359.2)
                                                                          else none
                                                                        else none
                                                                      else
                                                                        if (((ro 1).2 x3.toNatClampNeg) &&& (63 : Int32)) = (32 : Int32) then
                                                                          if am_in (x3 + (1 : Int32)) (ro 1).1 = true then
                                                                            if am_in (x3 + (2 : Int32)) (ro 1).1 = true then
                                                                              (f_C_as ((ro 1).2 (x3 + (1 : Int32)).toNatClampNeg) ((ro 1).2 (x3 + (2 : Int32)).toNatClampNeg) m).bind fun q366 =>
                                                                              if am_in (x3 + (1 : Int32)) (ro 1).1 = true then
                                                                                if am_in (x3 + (2 : Int32)) (ro 1).1 = true then
                                                                                  (f_M_as ((ro 1).2 (x3 + (1 : Int32)).toNatClampNeg) ((ro 1).2 (x3 + (2 : Int32)).toNatClampNeg) q366.2).bind fun q371 =>
                                                                                  if q366.1 = q371.1 then
                                                                                    f_L_law_b1249 ro (f_L_law_b18 ro n) x3 q371.2
                                                                                  else
                                                                                    some ((0 : Int32), q371.2)
                                                                                else none
                                                                              else none
                                                                            else none
                                                                          else none
                                                                        else
                                                                          if (((ro 1).2 x3.toNatClampNeg) &&& (63 : Int32)) = (33 : Int32) then
                                                                            if am_in (x3 + (1 : Int32)) (ro 1).1 = true then
                                                                              if am_in (x3 + (2 : Int32)) (ro 1).1 = true then
                                                                                (f_C_ask ((ro 1).2 (x3 + (1 : Int32)).toNatClampNeg) ((ro 1).2 (x3 + (2 : Int32)).toNatClampNeg) m).bind fun q378 =>
                                                                                if am_in (x3 + (1 : Int32)) (ro 1).1 = true then
                                                                                  if am_in (x3 + (2 : Int32)) (ro 1).1 = true then
                                                                                    (f_M_ask ((ro 1).2 (x3 + (1 : Int32)).toNatClampNeg) ((ro 1).2 (x3 + (2 : Int32)).toNatClampNeg) q378.2).bind fun q383 =>
                                                                                    if q378.1 = q383.1 then
                                                                                      f_L_law_b1249 ro (f_L_law_b18 ro n) x3 q383.2
                                                                                    else
                                                                                      some ((0 : Int32), q383.2)
                                                                                  else none
                                                                                else none
                                                                              else none
                                                                            else none
                                                                          else
                                                                            if (((ro 1).2 x3.toNatClampNeg) &&& (63 : Int32)) = (34 : Int32) then
                                                                              if am_in (x3 + (1 : Int32)) (ro 1).1 = true then
                                                                                (f_C_trace ((ro 1).2 (x3 + (1 : Int32)).toNatClampNeg) m).bind fun q389 =>
                                                                                if am_in (x3 + (1 : Int32)) (ro 1).1 = true then
                                                                                  (f_M_trace ((ro 1).2 (x3 + (1 : Int32)).toNatClampNeg) q389.2).bind fun q393 =>
                                                                                  if q389.1 = q393.1 then
                                                                                    f_L_law_b1249 ro (f_L_law_b18 ro n) x3 q393.2
                                                                                  else
                                                                                    some ((0 : Int32), q393.2)
                                                                                else none
                                                                              else none
                                                                            else
                                                                              if (((ro 1).2 x3.toNatClampNeg) &&& (63 : Int32)) = (35 : Int32) then
                                                                                if am_in (x3 + (1 : Int32)) (ro 1).1 = true then
                                                                                  (f_C_count ((ro 1).2 (x3 + (1 : Int32)).toNatClampNeg) m).bind fun q399 =>
                                                                                  if am_in (x3 + (1 : Int32)) (ro 1).1 = true then
                                                                                    (f_M_count ((ro 1).2 (x3 + (1 : Int32)).toNatClampNeg) q399.2).bind fun q403 =>
                                                                                    if q399.1 = q403.1 then
                                                                                      f_L_law_b1249 ro (f_L_law_b18 ro n) x3 q403.2
                                                                                    else
                                                                                      some ((0 : Int32), q403.2)
                                                                                  else none
                                                                                else none
                                                                              else
                                                                                if (((ro 1).2 x3.toNatClampNeg) &&& (63 : Int32)) = (36 : Int32) then
                                                                                  (f_C_status m).bind fun q408 =>
                                                                                  (f_M_status q408.2).bind fun q411 =>
                                                                                  if q408.1 = q411.1 then
                                                                                    f_L_law_b1249 ro (f_L_law_b18 ro n) x3 q411.2
                                                                                  else
                                                                                    some ((0 : Int32), q411.2)
                                                                                else
                                                                                  f_L_law_b1249 ro (f_L_law_b18 ro n) x3 m
      else none
set_option maxHeartbeats 8000000 in
set_option maxRecDepth 100000 in
theorem f_L_law_b1249_ok {ro : am_Ro} {d : Nat} (hd : 11 ≤ d + 1) {k18 : Int32 → am_Mm → Option (Int32 × am_Mm)} (hk18 : ∀ (x3 : Int32) (m m' : am_Mm) (r : Int32), k18 x3 m = some (r, m') → am_AW am_nw ro (d + 1) mr_L_law 18 [some (.ref (am_rB + 1)), some (.ref 0), some (.ref 63), some (.int x3)] [] (S0, m) (some (.int r)) (S0, m')) (x3 : Int32) {m m' : am_Mm} {r : Int32} (h : f_L_law_b1249 ro k18 x3 m = some (r, m')) : am_AW am_nw ro (d + 1) mr_L_law 1249 [some (.ref (am_rB + 1)), some (.ref 0), some (.ref 63), some (.int x3)] [] (S0, m) (some (.int r)) (S0, m') := by
  unfold f_L_law_b1249 at h
  refine am_AW.run am_base_ok ok_L_law (Nat.le_add_left 1 d) 2 (pc1 := 18) (ls1 := [some (.ref (am_rB + 1)), some (.ref 0), some (.ref 63), some (.int (x3 + (6 : Int32)))]) (st1 := []) (σ1 := (S0, m)) rfl ?_
  exact am_AW.weak (hk18 (x3 + (6 : Int32))  _ _ _ h) (by simp only [am_le, and_self])
set_option maxHeartbeats 8000000 in
set_option maxRecDepth 100000 in
theorem f_L_law_b18_all {ro : am_Ro} {d : Nat} (hd : 11 ≤ d + 1) : ∀ (n : Nat) (x3 : Int32) (m m' : am_Mm) (r : Int32), f_L_law_b18 ro n x3 m = some (r, m') → am_AW am_nw ro (d + 1) mr_L_law 18 [some (.ref (am_rB + 1)), some (.ref 0), some (.ref 63), some (.int x3)] [] (S0, m) (some (.int r)) (S0, m') := by
  intro n
  induction n with
  | zero =>
    intro x3 m m' r h
    rw [f_L_law_b18] at h
    cases h
  | succ n ih =>
    intro x3 m m' r h
    rw [f_L_law_b18] at h
    refine am_AW.run am_base_ok ok_L_law (Nat.le_add_left 1 d) 2 (pc1 := 20) (ls1 := [some (.ref (am_rB + 1)), some (.ref 0), some (.ref 63), some (.int x3)]) (st1 := [.ref (am_rB + 1), .int x3]) (σ1 := (S0, m)) rfl ?_
    refine am_AW.rolen ok_L_law (Nat.le_add_left 1 d) (j := 1) (by decide) rfl ?_
    refine am_AW.run am_base_ok ok_L_law (Nat.le_add_left 1 d) 2 (pc1 := 24) (ls1 := [some (.ref (am_rB + 1)), some (.ref 0), some (.ref 63), some (.int x3)]) (st1 := [.int ((Int32.ofNat (ro 1).1) - (6 : Int32)), .int x3]) (σ1 := (S0, m)) rfl ?_
    refine am_AW.brP ok_L_law rfl rfl am_c_gt (fun c1 => ?_) (fun c1 => ?_)
    · rw [if_pos c1] at h
      refine am_AW.run am_base_ok ok_L_law (Nat.le_add_left 1 d) 1 (pc1 := 1256) (ls1 := [some (.ref (am_rB + 1)), some (.ref 0), some (.ref 63), some (.int x3)]) (st1 := [.int (1 : Int32)]) (σ1 := (S0, m)) rfl ?_
      obtain ⟨rfl, rfl⟩ := Prod.mk.inj (Option.some.inj h)
      exact am_AW.ret ok_L_law rfl rfl rfl (by decide)
    · rw [if_neg c1] at h
      refine am_AW.run am_base_ok ok_L_law (Nat.le_add_left 1 d) 2 (pc1 := 29) (ls1 := [some (.ref (am_rB + 1)), some (.ref 0), some (.ref 63), some (.int x3)]) (st1 := [.int x3, .ref (am_rB + 1)]) (σ1 := (S0, m)) rfl ?_
      by_cases g2 : am_in x3 (ro 1).1 = true
      rotate_left
      · rw [if_neg g2] at h
        cases h
      rw [if_pos g2] at h
      refine am_AW.rold ok_L_law (Nat.le_add_left 1 d) (j := 1) (by decide) rfl g2 ?_
      refine am_AW.run am_base_ok ok_L_law (Nat.le_add_left 1 d) 2 (pc1 := 33) (ls1 := [some (.ref (am_rB + 1)), some (.ref 0), some (.ref 63), some (.int x3)]) (st1 := [.int (((ro 1).2 x3.toNatClampNeg) &&& (63 : Int32))]) (σ1 := (S0, m)) rfl ?_
      by_cases c3 : (((ro 1).2 x3.toNatClampNeg) &&& (63 : Int32)) = (0 : Int32)
      · rw [if_pos c3] at h
        refine am_AW.sw ok_L_law rfl (t := 196) (by rw [c3]; decide +kernel) ?_
        refine am_AW.run am_base_ok ok_L_law (Nat.le_add_left 1 d) 5 (pc1 := 201) (ls1 := [some (.ref (am_rB + 1)), some (.ref 0), some (.ref 63), some (.int x3)]) (st1 := [.int (x3 + (1 : Int32)), .ref (am_rB + 1), .ref 0]) (σ1 := (S0, m)) rfl ?_
        by_cases g4 : am_in (x3 + (1 : Int32)) (ro 1).1 = true
        rotate_left
        · rw [if_neg g4] at h
          cases h
        rw [if_pos g4] at h
        refine am_AW.rold ok_L_law (Nat.le_add_left 1 d) (j := 1) (by decide) rfl g4 ?_
        refine am_AW.run am_base_ok ok_L_law (Nat.le_add_left 1 d) 4 (pc1 := 206) (ls1 := [some (.ref (am_rB + 1)), some (.ref 0), some (.ref 63), some (.int x3)]) (st1 := [.int (x3 + (2 : Int32)), .ref (am_rB + 1), .int ((ro 1).2 (x3 + (1 : Int32)).toNatClampNeg), .ref 0]) (σ1 := (S0, m)) rfl ?_
        by_cases g5 : am_in (x3 + (2 : Int32)) (ro 1).1 = true
        rotate_left
        · rw [if_neg g5] at h
          cases h
        rw [if_pos g5] at h
        refine am_AW.rold ok_L_law (Nat.le_add_left 1 d) (j := 1) (by decide) rfl g5 ?_
        refine am_AW.run am_base_ok ok_L_law (Nat.le_add_left 1 d) 4 (pc1 := 211) (ls1 := [some (.ref (am_rB + 1)), some (.ref 0), some (.ref 63), some (.int x3)]) (st1 := [.int (x3 + (3 : Int32)), .ref (am_rB + 1), .int ((ro 1).2 (x3 + (2 : Int32)).toNatClampNeg), .int ((ro 1).2 (x3 + (1 : Int32)).toNatClampNeg), .ref 0]) (σ1 := (S0, m)) rfl ?_
        by_cases g6 : am_in (x3 + (3 : Int32)) (ro 1).1 = true
        rotate_left
        · rw [if_neg g6] at h
          cases h
        rw [if_pos g6] at h
        refine am_AW.rold ok_L_law (Nat.le_add_left 1 d) (j := 1) (by decide) rfl g6 ?_
        obtain ⟨q9, hq9, h⟩ := Option.bind_eq_some_iff.mp h
        refine am_AW.callV ok_L_law am_nw_ok (As := [.int ((ro 1).2 (x3 + (1 : Int32)).toNatClampNeg), .int ((ro 1).2 (x3 + (2 : Int32)).toNatClampNeg), .int ((ro 1).2 (x3 + (3 : Int32)).toNatClampNeg)]) (rest := []) rfl rfl rfl oR_C_row lk_L_13 iM_C_row sE_C_row (qc := kq9) rfl rfl rfl rfl (Nat.le_of_ble_eq_true rfl) (f_C_row_ok (d := d) (by omega) ((ro 1).2 (x3 + (1 : Int32)).toNatClampNeg) ((ro 1).2 (x3 + (2 : Int32)).toNatClampNeg) ((ro 1).2 (x3 + (3 : Int32)).toNatClampNeg) hq9) ?_
        change am_AW am_nw ro (d + 1) mr_L_law 215 [some (.ref (am_rB + 1)), some (.ref 0), some (.ref 63), some (.int x3)] [.int q9.1] (S0, q9.2) (some (.int r)) (S0, m')
        refine am_AW.run am_base_ok ok_L_law (Nat.le_add_left 1 d) 5 (pc1 := 220) (ls1 := [some (.ref (am_rB + 1)), some (.ref 0), some (.ref 63), some (.int x3)]) (st1 := [.int (x3 + (1 : Int32)), .ref (am_rB + 1), .ref 63, .int q9.1]) (σ1 := (S0, q9.2)) rfl ?_
        by_cases g10 : am_in (x3 + (1 : Int32)) (ro 1).1 = true
        rotate_left
        · rw [if_neg g10] at h
          cases h
        rw [if_pos g10] at h
        refine am_AW.rold ok_L_law (Nat.le_add_left 1 d) (j := 1) (by decide) rfl g10 ?_
        refine am_AW.run am_base_ok ok_L_law (Nat.le_add_left 1 d) 4 (pc1 := 225) (ls1 := [some (.ref (am_rB + 1)), some (.ref 0), some (.ref 63), some (.int x3)]) (st1 := [.int (x3 + (2 : Int32)), .ref (am_rB + 1), .int ((ro 1).2 (x3 + (1 : Int32)).toNatClampNeg), .ref 63, .int q9.1]) (σ1 := (S0, q9.2)) rfl ?_
        by_cases g11 : am_in (x3 + (2 : Int32)) (ro 1).1 = true
        rotate_left
        · rw [if_neg g11] at h
          cases h
        rw [if_pos g11] at h
        refine am_AW.rold ok_L_law (Nat.le_add_left 1 d) (j := 1) (by decide) rfl g11 ?_
        refine am_AW.run am_base_ok ok_L_law (Nat.le_add_left 1 d) 4 (pc1 := 230) (ls1 := [some (.ref (am_rB + 1)), some (.ref 0), some (.ref 63), some (.int x3)]) (st1 := [.int (x3 + (3 : Int32)), .ref (am_rB + 1), .int ((ro 1).2 (x3 + (2 : Int32)).toNatClampNeg), .int ((ro 1).2 (x3 + (1 : Int32)).toNatClampNeg), .ref 63, .int q9.1]) (σ1 := (S0, q9.2)) rfl ?_
        by_cases g12 : am_in (x3 + (3 : Int32)) (ro 1).1 = true
        rotate_left
        · rw [if_neg g12] at h
          cases h
        rw [if_pos g12] at h
        refine am_AW.rold ok_L_law (Nat.le_add_left 1 d) (j := 1) (by decide) rfl g12 ?_
        obtain ⟨q15, hq15, h⟩ := Option.bind_eq_some_iff.mp h
        refine am_AW.callV ok_L_law am_nw_ok (As := [.int ((ro 1).2 (x3 + (1 : Int32)).toNatClampNeg), .int ((ro 1).2 (x3 + (2 : Int32)).toNatClampNeg), .int ((ro 1).2 (x3 + (3 : Int32)).toNatClampNeg)]) (rest := [.int q9.1]) rfl rfl rfl oR_M_row lk_L_17 iM_M_row sE_M_row (qc := kq10) rfl rfl rfl rfl (Nat.le_of_ble_eq_true rfl) (f_M_row_ok (d := d) (by omega) ((ro 1).2 (x3 + (1 : Int32)).toNatClampNeg) ((ro 1).2 (x3 + (2 : Int32)).toNatClampNeg) ((ro 1).2 (x3 + (3 : Int32)).toNatClampNeg) hq15) ?_
        change am_AW am_nw ro (d + 1) mr_L_law 234 [some (.ref (am_rB + 1)), some (.ref 0), some (.ref 63), some (.int x3)] [.int q15.1, .int q9.1] (S0, q15.2) (some (.int r)) (S0, m')
        refine am_AW.brP ok_L_law rfl rfl am_c_eq (fun c16 => ?_) (fun c16 => ?_)
        · rw [if_pos c16] at h
          exact am_AW.weak (f_L_law_b1249_ok hd (ih) x3  h) (by simp only [am_le, and_self])
        · rw [if_neg c16] at h
          refine am_AW.run am_base_ok ok_L_law (Nat.le_add_left 1 d) 1 (pc1 := 238) (ls1 := [some (.ref (am_rB + 1)), some (.ref 0), some (.ref 63), some (.int x3)]) (st1 := [.int (0 : Int32)]) (σ1 := (S0, q15.2)) rfl ?_
          obtain ⟨rfl, rfl⟩ := Prod.mk.inj (Option.some.inj h)
          exact am_AW.ret ok_L_law rfl rfl rfl (by decide)
      rw [if_neg c3] at h
      by_cases c17 : (((ro 1).2 x3.toNatClampNeg) &&& (63 : Int32)) = (1 : Int32)
      · rw [if_pos c17] at h
        refine am_AW.sw ok_L_law rfl (t := 239) (by rw [c17]; decide +kernel) ?_
        refine am_AW.run am_base_ok ok_L_law (Nat.le_add_left 1 d) 5 (pc1 := 244) (ls1 := [some (.ref (am_rB + 1)), some (.ref 0), some (.ref 63), some (.int x3)]) (st1 := [.int (x3 + (1 : Int32)), .ref (am_rB + 1), .ref 0]) (σ1 := (S0, m)) rfl ?_
        by_cases g18 : am_in (x3 + (1 : Int32)) (ro 1).1 = true
        rotate_left
        · rw [if_neg g18] at h
          cases h
        rw [if_pos g18] at h
        refine am_AW.rold ok_L_law (Nat.le_add_left 1 d) (j := 1) (by decide) rfl g18 ?_
        refine am_AW.run am_base_ok ok_L_law (Nat.le_add_left 1 d) 4 (pc1 := 249) (ls1 := [some (.ref (am_rB + 1)), some (.ref 0), some (.ref 63), some (.int x3)]) (st1 := [.int (x3 + (2 : Int32)), .ref (am_rB + 1), .int ((ro 1).2 (x3 + (1 : Int32)).toNatClampNeg), .ref 0]) (σ1 := (S0, m)) rfl ?_
        by_cases g19 : am_in (x3 + (2 : Int32)) (ro 1).1 = true
        rotate_left
        · rw [if_neg g19] at h
          cases h
        rw [if_pos g19] at h
        refine am_AW.rold ok_L_law (Nat.le_add_left 1 d) (j := 1) (by decide) rfl g19 ?_
        refine am_AW.run am_base_ok ok_L_law (Nat.le_add_left 1 d) 4 (pc1 := 254) (ls1 := [some (.ref (am_rB + 1)), some (.ref 0), some (.ref 63), some (.int x3)]) (st1 := [.int (x3 + (3 : Int32)), .ref (am_rB + 1), .int ((ro 1).2 (x3 + (2 : Int32)).toNatClampNeg), .int ((ro 1).2 (x3 + (1 : Int32)).toNatClampNeg), .ref 0]) (σ1 := (S0, m)) rfl ?_
        by_cases g20 : am_in (x3 + (3 : Int32)) (ro 1).1 = true
        rotate_left
        · rw [if_neg g20] at h
          cases h
        rw [if_pos g20] at h
        refine am_AW.rold ok_L_law (Nat.le_add_left 1 d) (j := 1) (by decide) rfl g20 ?_
        obtain ⟨q23, hq23, h⟩ := Option.bind_eq_some_iff.mp h
        refine am_AW.callV ok_L_law am_nw_ok (As := [.int ((ro 1).2 (x3 + (1 : Int32)).toNatClampNeg), .int ((ro 1).2 (x3 + (2 : Int32)).toNatClampNeg), .int ((ro 1).2 (x3 + (3 : Int32)).toNatClampNeg)]) (rest := []) rfl rfl rfl oR_C_set lk_L_18 iM_C_set sE_C_set (qc := kq9) rfl rfl rfl rfl (Nat.le_of_ble_eq_true rfl) (f_C_set_ok (d := d) (by omega) ((ro 1).2 (x3 + (1 : Int32)).toNatClampNeg) ((ro 1).2 (x3 + (2 : Int32)).toNatClampNeg) ((ro 1).2 (x3 + (3 : Int32)).toNatClampNeg) hq23) ?_
        change am_AW am_nw ro (d + 1) mr_L_law 258 [some (.ref (am_rB + 1)), some (.ref 0), some (.ref 63), some (.int x3)] [.int q23.1] (S0, q23.2) (some (.int r)) (S0, m')
        refine am_AW.run am_base_ok ok_L_law (Nat.le_add_left 1 d) 5 (pc1 := 263) (ls1 := [some (.ref (am_rB + 1)), some (.ref 0), some (.ref 63), some (.int x3)]) (st1 := [.int (x3 + (1 : Int32)), .ref (am_rB + 1), .ref 63, .int q23.1]) (σ1 := (S0, q23.2)) rfl ?_
        by_cases g24 : am_in (x3 + (1 : Int32)) (ro 1).1 = true
        rotate_left
        · rw [if_neg g24] at h
          cases h
        rw [if_pos g24] at h
        refine am_AW.rold ok_L_law (Nat.le_add_left 1 d) (j := 1) (by decide) rfl g24 ?_
        refine am_AW.run am_base_ok ok_L_law (Nat.le_add_left 1 d) 4 (pc1 := 268) (ls1 := [some (.ref (am_rB + 1)), some (.ref 0), some (.ref 63), some (.int x3)]) (st1 := [.int (x3 + (2 : Int32)), .ref (am_rB + 1), .int ((ro 1).2 (x3 + (1 : Int32)).toNatClampNeg), .ref 63, .int q23.1]) (σ1 := (S0, q23.2)) rfl ?_
        by_cases g25 : am_in (x3 + (2 : Int32)) (ro 1).1 = true
        rotate_left
        · rw [if_neg g25] at h
          cases h
        rw [if_pos g25] at h
        refine am_AW.rold ok_L_law (Nat.le_add_left 1 d) (j := 1) (by decide) rfl g25 ?_
        refine am_AW.run am_base_ok ok_L_law (Nat.le_add_left 1 d) 4 (pc1 := 273) (ls1 := [some (.ref (am_rB + 1)), some (.ref 0), some (.ref 63), some (.int x3)]) (st1 := [.int (x3 + (3 : Int32)), .ref (am_rB + 1), .int ((ro 1).2 (x3 + (2 : Int32)).toNatClampNeg), .int ((ro 1).2 (x3 + (1 : Int32)).toNatClampNeg), .ref 63, .int q23.1]) (σ1 := (S0, q23.2)) rfl ?_
        by_cases g26 : am_in (x3 + (3 : Int32)) (ro 1).1 = true
        rotate_left
        · rw [if_neg g26] at h
          cases h
        rw [if_pos g26] at h
        refine am_AW.rold ok_L_law (Nat.le_add_left 1 d) (j := 1) (by decide) rfl g26 ?_
        obtain ⟨q29, hq29, h⟩ := Option.bind_eq_some_iff.mp h
        refine am_AW.callV ok_L_law am_nw_ok (As := [.int ((ro 1).2 (x3 + (1 : Int32)).toNatClampNeg), .int ((ro 1).2 (x3 + (2 : Int32)).toNatClampNeg), .int ((ro 1).2 (x3 + (3 : Int32)).toNatClampNeg)]) (rest := [.int q23.1]) rfl rfl rfl oR_M_set lk_L_21 iM_M_set sE_M_set (qc := kq10) rfl rfl rfl rfl (Nat.le_of_ble_eq_true rfl) (f_M_set_ok (d := d) (by omega) ((ro 1).2 (x3 + (1 : Int32)).toNatClampNeg) ((ro 1).2 (x3 + (2 : Int32)).toNatClampNeg) ((ro 1).2 (x3 + (3 : Int32)).toNatClampNeg) hq29) ?_
        change am_AW am_nw ro (d + 1) mr_L_law 277 [some (.ref (am_rB + 1)), some (.ref 0), some (.ref 63), some (.int x3)] [.int q29.1, .int q23.1] (S0, q29.2) (some (.int r)) (S0, m')
        refine am_AW.brP ok_L_law rfl rfl am_c_eq (fun c30 => ?_) (fun c30 => ?_)
        · rw [if_pos c30] at h
          exact am_AW.weak (f_L_law_b1249_ok hd (ih) x3  h) (by simp only [am_le, and_self])
        · rw [if_neg c30] at h
          refine am_AW.run am_base_ok ok_L_law (Nat.le_add_left 1 d) 1 (pc1 := 281) (ls1 := [some (.ref (am_rB + 1)), some (.ref 0), some (.ref 63), some (.int x3)]) (st1 := [.int (0 : Int32)]) (σ1 := (S0, q29.2)) rfl ?_
          obtain ⟨rfl, rfl⟩ := Prod.mk.inj (Option.some.inj h)
          exact am_AW.ret ok_L_law rfl rfl rfl (by decide)
      rw [if_neg c17] at h
      by_cases c31 : (((ro 1).2 x3.toNatClampNeg) &&& (63 : Int32)) = (2 : Int32)
      · rw [if_pos c31] at h
        refine am_AW.sw ok_L_law rfl (t := 282) (by rw [c31]; decide +kernel) ?_
        refine am_AW.run am_base_ok ok_L_law (Nat.le_add_left 1 d) 5 (pc1 := 287) (ls1 := [some (.ref (am_rB + 1)), some (.ref 0), some (.ref 63), some (.int x3)]) (st1 := [.int (x3 + (1 : Int32)), .ref (am_rB + 1), .ref 0]) (σ1 := (S0, m)) rfl ?_
        by_cases g32 : am_in (x3 + (1 : Int32)) (ro 1).1 = true
        rotate_left
        · rw [if_neg g32] at h
          cases h
        rw [if_pos g32] at h
        refine am_AW.rold ok_L_law (Nat.le_add_left 1 d) (j := 1) (by decide) rfl g32 ?_
        refine am_AW.run am_base_ok ok_L_law (Nat.le_add_left 1 d) 4 (pc1 := 292) (ls1 := [some (.ref (am_rB + 1)), some (.ref 0), some (.ref 63), some (.int x3)]) (st1 := [.int (x3 + (2 : Int32)), .ref (am_rB + 1), .int ((ro 1).2 (x3 + (1 : Int32)).toNatClampNeg), .ref 0]) (σ1 := (S0, m)) rfl ?_
        by_cases g33 : am_in (x3 + (2 : Int32)) (ro 1).1 = true
        rotate_left
        · rw [if_neg g33] at h
          cases h
        rw [if_pos g33] at h
        refine am_AW.rold ok_L_law (Nat.le_add_left 1 d) (j := 1) (by decide) rfl g33 ?_
        refine am_AW.run am_base_ok ok_L_law (Nat.le_add_left 1 d) 4 (pc1 := 297) (ls1 := [some (.ref (am_rB + 1)), some (.ref 0), some (.ref 63), some (.int x3)]) (st1 := [.int (x3 + (3 : Int32)), .ref (am_rB + 1), .int ((ro 1).2 (x3 + (2 : Int32)).toNatClampNeg), .int ((ro 1).2 (x3 + (1 : Int32)).toNatClampNeg), .ref 0]) (σ1 := (S0, m)) rfl ?_
        by_cases g34 : am_in (x3 + (3 : Int32)) (ro 1).1 = true
        rotate_left
        · rw [if_neg g34] at h
          cases h
        rw [if_pos g34] at h
        refine am_AW.rold ok_L_law (Nat.le_add_left 1 d) (j := 1) (by decide) rfl g34 ?_
        refine am_AW.run am_base_ok ok_L_law (Nat.le_add_left 1 d) 4 (pc1 := 302) (ls1 := [some (.ref (am_rB + 1)), some (.ref 0), some (.ref 63), some (.int x3)]) (st1 := [.int (x3 + (4 : Int32)), .ref (am_rB + 1), .int ((ro 1).2 (x3 + (3 : Int32)).toNatClampNeg), .int ((ro 1).2 (x3 + (2 : Int32)).toNatClampNeg), .int ((ro 1).2 (x3 + (1 : Int32)).toNatClampNeg), .ref 0]) (σ1 := (S0, m)) rfl ?_
        by_cases g35 : am_in (x3 + (4 : Int32)) (ro 1).1 = true
        rotate_left
        · rw [if_neg g35] at h
          cases h
        rw [if_pos g35] at h
        refine am_AW.rold ok_L_law (Nat.le_add_left 1 d) (j := 1) (by decide) rfl g35 ?_
        refine am_AW.run am_base_ok ok_L_law (Nat.le_add_left 1 d) 4 (pc1 := 307) (ls1 := [some (.ref (am_rB + 1)), some (.ref 0), some (.ref 63), some (.int x3)]) (st1 := [.int (x3 + (5 : Int32)), .ref (am_rB + 1), .int ((ro 1).2 (x3 + (4 : Int32)).toNatClampNeg), .int ((ro 1).2 (x3 + (3 : Int32)).toNatClampNeg), .int ((ro 1).2 (x3 + (2 : Int32)).toNatClampNeg), .int ((ro 1).2 (x3 + (1 : Int32)).toNatClampNeg), .ref 0]) (σ1 := (S0, m)) rfl ?_
        by_cases g36 : am_in (x3 + (5 : Int32)) (ro 1).1 = true
        rotate_left
        · rw [if_neg g36] at h
          cases h
        rw [if_pos g36] at h
        refine am_AW.rold ok_L_law (Nat.le_add_left 1 d) (j := 1) (by decide) rfl g36 ?_
        obtain ⟨q39, hq39, h⟩ := Option.bind_eq_some_iff.mp h
        refine am_AW.callV ok_L_law am_nw_ok (As := [.int ((ro 1).2 (x3 + (1 : Int32)).toNatClampNeg), .int ((ro 1).2 (x3 + (2 : Int32)).toNatClampNeg), .int ((ro 1).2 (x3 + (3 : Int32)).toNatClampNeg), .int ((ro 1).2 (x3 + (4 : Int32)).toNatClampNeg), .int ((ro 1).2 (x3 + (5 : Int32)).toNatClampNeg)]) (rest := []) rfl rfl rfl oR_C_copy lk_L_22 iM_C_copy sE_C_copy (qc := kq9) rfl rfl rfl rfl (Nat.le_of_ble_eq_true rfl) (f_C_copy_ok (d := d) (by omega) ((ro 1).2 (x3 + (1 : Int32)).toNatClampNeg) ((ro 1).2 (x3 + (2 : Int32)).toNatClampNeg) ((ro 1).2 (x3 + (3 : Int32)).toNatClampNeg) ((ro 1).2 (x3 + (4 : Int32)).toNatClampNeg) ((ro 1).2 (x3 + (5 : Int32)).toNatClampNeg) hq39) ?_
        change am_AW am_nw ro (d + 1) mr_L_law 311 [some (.ref (am_rB + 1)), some (.ref 0), some (.ref 63), some (.int x3)] [.int q39.1] (S0, q39.2) (some (.int r)) (S0, m')
        refine am_AW.run am_base_ok ok_L_law (Nat.le_add_left 1 d) 5 (pc1 := 316) (ls1 := [some (.ref (am_rB + 1)), some (.ref 0), some (.ref 63), some (.int x3)]) (st1 := [.int (x3 + (1 : Int32)), .ref (am_rB + 1), .ref 63, .int q39.1]) (σ1 := (S0, q39.2)) rfl ?_
        by_cases g40 : am_in (x3 + (1 : Int32)) (ro 1).1 = true
        rotate_left
        · rw [if_neg g40] at h
          cases h
        rw [if_pos g40] at h
        refine am_AW.rold ok_L_law (Nat.le_add_left 1 d) (j := 1) (by decide) rfl g40 ?_
        refine am_AW.run am_base_ok ok_L_law (Nat.le_add_left 1 d) 4 (pc1 := 321) (ls1 := [some (.ref (am_rB + 1)), some (.ref 0), some (.ref 63), some (.int x3)]) (st1 := [.int (x3 + (2 : Int32)), .ref (am_rB + 1), .int ((ro 1).2 (x3 + (1 : Int32)).toNatClampNeg), .ref 63, .int q39.1]) (σ1 := (S0, q39.2)) rfl ?_
        by_cases g41 : am_in (x3 + (2 : Int32)) (ro 1).1 = true
        rotate_left
        · rw [if_neg g41] at h
          cases h
        rw [if_pos g41] at h
        refine am_AW.rold ok_L_law (Nat.le_add_left 1 d) (j := 1) (by decide) rfl g41 ?_
        refine am_AW.run am_base_ok ok_L_law (Nat.le_add_left 1 d) 4 (pc1 := 326) (ls1 := [some (.ref (am_rB + 1)), some (.ref 0), some (.ref 63), some (.int x3)]) (st1 := [.int (x3 + (3 : Int32)), .ref (am_rB + 1), .int ((ro 1).2 (x3 + (2 : Int32)).toNatClampNeg), .int ((ro 1).2 (x3 + (1 : Int32)).toNatClampNeg), .ref 63, .int q39.1]) (σ1 := (S0, q39.2)) rfl ?_
        by_cases g42 : am_in (x3 + (3 : Int32)) (ro 1).1 = true
        rotate_left
        · rw [if_neg g42] at h
          cases h
        rw [if_pos g42] at h
        refine am_AW.rold ok_L_law (Nat.le_add_left 1 d) (j := 1) (by decide) rfl g42 ?_
        refine am_AW.run am_base_ok ok_L_law (Nat.le_add_left 1 d) 4 (pc1 := 331) (ls1 := [some (.ref (am_rB + 1)), some (.ref 0), some (.ref 63), some (.int x3)]) (st1 := [.int (x3 + (4 : Int32)), .ref (am_rB + 1), .int ((ro 1).2 (x3 + (3 : Int32)).toNatClampNeg), .int ((ro 1).2 (x3 + (2 : Int32)).toNatClampNeg), .int ((ro 1).2 (x3 + (1 : Int32)).toNatClampNeg), .ref 63, .int q39.1]) (σ1 := (S0, q39.2)) rfl ?_
        by_cases g43 : am_in (x3 + (4 : Int32)) (ro 1).1 = true
        rotate_left
        · rw [if_neg g43] at h
          cases h
        rw [if_pos g43] at h
        refine am_AW.rold ok_L_law (Nat.le_add_left 1 d) (j := 1) (by decide) rfl g43 ?_
        refine am_AW.run am_base_ok ok_L_law (Nat.le_add_left 1 d) 4 (pc1 := 336) (ls1 := [some (.ref (am_rB + 1)), some (.ref 0), some (.ref 63), some (.int x3)]) (st1 := [.int (x3 + (5 : Int32)), .ref (am_rB + 1), .int ((ro 1).2 (x3 + (4 : Int32)).toNatClampNeg), .int ((ro 1).2 (x3 + (3 : Int32)).toNatClampNeg), .int ((ro 1).2 (x3 + (2 : Int32)).toNatClampNeg), .int ((ro 1).2 (x3 + (1 : Int32)).toNatClampNeg), .ref 63, .int q39.1]) (σ1 := (S0, q39.2)) rfl ?_
        by_cases g44 : am_in (x3 + (5 : Int32)) (ro 1).1 = true
        rotate_left
        · rw [if_neg g44] at h
          cases h
        rw [if_pos g44] at h
        refine am_AW.rold ok_L_law (Nat.le_add_left 1 d) (j := 1) (by decide) rfl g44 ?_
        obtain ⟨q47, hq47, h⟩ := Option.bind_eq_some_iff.mp h
        refine am_AW.callV ok_L_law am_nw_ok (As := [.int ((ro 1).2 (x3 + (1 : Int32)).toNatClampNeg), .int ((ro 1).2 (x3 + (2 : Int32)).toNatClampNeg), .int ((ro 1).2 (x3 + (3 : Int32)).toNatClampNeg), .int ((ro 1).2 (x3 + (4 : Int32)).toNatClampNeg), .int ((ro 1).2 (x3 + (5 : Int32)).toNatClampNeg)]) (rest := [.int q39.1]) rfl rfl rfl oR_M_copy lk_L_26 iM_M_copy sE_M_copy (qc := kq10) rfl rfl rfl rfl (Nat.le_of_ble_eq_true rfl) (f_M_copy_ok (d := d) (by omega) ((ro 1).2 (x3 + (1 : Int32)).toNatClampNeg) ((ro 1).2 (x3 + (2 : Int32)).toNatClampNeg) ((ro 1).2 (x3 + (3 : Int32)).toNatClampNeg) ((ro 1).2 (x3 + (4 : Int32)).toNatClampNeg) ((ro 1).2 (x3 + (5 : Int32)).toNatClampNeg) hq47) ?_
        change am_AW am_nw ro (d + 1) mr_L_law 340 [some (.ref (am_rB + 1)), some (.ref 0), some (.ref 63), some (.int x3)] [.int q47.1, .int q39.1] (S0, q47.2) (some (.int r)) (S0, m')
        refine am_AW.brP ok_L_law rfl rfl am_c_eq (fun c48 => ?_) (fun c48 => ?_)
        · rw [if_pos c48] at h
          exact am_AW.weak (f_L_law_b1249_ok hd (ih) x3  h) (by simp only [am_le, and_self])
        · rw [if_neg c48] at h
          refine am_AW.run am_base_ok ok_L_law (Nat.le_add_left 1 d) 1 (pc1 := 344) (ls1 := [some (.ref (am_rB + 1)), some (.ref 0), some (.ref 63), some (.int x3)]) (st1 := [.int (0 : Int32)]) (σ1 := (S0, q47.2)) rfl ?_
          obtain ⟨rfl, rfl⟩ := Prod.mk.inj (Option.some.inj h)
          exact am_AW.ret ok_L_law rfl rfl rfl (by decide)
      rw [if_neg c31] at h
      by_cases c49 : (((ro 1).2 x3.toNatClampNeg) &&& (63 : Int32)) = (3 : Int32)
      · rw [if_pos c49] at h
        refine am_AW.sw ok_L_law rfl (t := 345) (by rw [c49]; decide +kernel) ?_
        refine am_AW.run am_base_ok ok_L_law (Nat.le_add_left 1 d) 5 (pc1 := 350) (ls1 := [some (.ref (am_rB + 1)), some (.ref 0), some (.ref 63), some (.int x3)]) (st1 := [.int (x3 + (1 : Int32)), .ref (am_rB + 1), .ref 0]) (σ1 := (S0, m)) rfl ?_
        by_cases g50 : am_in (x3 + (1 : Int32)) (ro 1).1 = true
        rotate_left
        · rw [if_neg g50] at h
          cases h
        rw [if_pos g50] at h
        refine am_AW.rold ok_L_law (Nat.le_add_left 1 d) (j := 1) (by decide) rfl g50 ?_
        obtain ⟨q53, hq53, h⟩ := Option.bind_eq_some_iff.mp h
        refine am_AW.callV ok_L_law am_nw_ok (As := [.int ((ro 1).2 (x3 + (1 : Int32)).toNatClampNeg)]) (rest := []) rfl rfl rfl oR_C_drop lk_L_27 iM_C_drop sE_C_drop (qc := kq9) rfl rfl rfl rfl (Nat.le_of_ble_eq_true rfl) (f_C_drop_ok (d := d) (by omega) ((ro 1).2 (x3 + (1 : Int32)).toNatClampNeg) hq53) ?_
        change am_AW am_nw ro (d + 1) mr_L_law 354 [some (.ref (am_rB + 1)), some (.ref 0), some (.ref 63), some (.int x3)] [.int q53.1] (S0, q53.2) (some (.int r)) (S0, m')
        refine am_AW.run am_base_ok ok_L_law (Nat.le_add_left 1 d) 5 (pc1 := 359) (ls1 := [some (.ref (am_rB + 1)), some (.ref 0), some (.ref 63), some (.int x3)]) (st1 := [.int (x3 + (1 : Int32)), .ref (am_rB + 1), .ref 63, .int q53.1]) (σ1 := (S0, q53.2)) rfl ?_
        by_cases g54 : am_in (x3 + (1 : Int32)) (ro 1).1 = true
        rotate_left
        · rw [if_neg g54] at h
          cases h
        rw [if_pos g54] at h
        refine am_AW.rold ok_L_law (Nat.le_add_left 1 d) (j := 1) (by decide) rfl g54 ?_
        obtain ⟨q57, hq57, h⟩ := Option.bind_eq_some_iff.mp h
        refine am_AW.callV ok_L_law am_nw_ok (As := [.int ((ro 1).2 (x3 + (1 : Int32)).toNatClampNeg)]) (rest := [.int q53.1]) rfl rfl rfl oR_M_drop lk_L_31 iM_M_drop sE_M_drop (qc := kq10) rfl rfl rfl rfl (Nat.le_of_ble_eq_true rfl) (f_M_drop_ok (d := d) (by omega) ((ro 1).2 (x3 + (1 : Int32)).toNatClampNeg) hq57) ?_
        change am_AW am_nw ro (d + 1) mr_L_law 363 [some (.ref (am_rB + 1)), some (.ref 0), some (.ref 63), some (.int x3)] [.int q57.1, .int q53.1] (S0, q57.2) (some (.int r)) (S0, m')
        refine am_AW.brP ok_L_law rfl rfl am_c_eq (fun c58 => ?_) (fun c58 => ?_)
        · rw [if_pos c58] at h
          exact am_AW.weak (f_L_law_b1249_ok hd (ih) x3  h) (by simp only [am_le, and_self])
        · rw [if_neg c58] at h
          refine am_AW.run am_base_ok ok_L_law (Nat.le_add_left 1 d) 1 (pc1 := 367) (ls1 := [some (.ref (am_rB + 1)), some (.ref 0), some (.ref 63), some (.int x3)]) (st1 := [.int (0 : Int32)]) (σ1 := (S0, q57.2)) rfl ?_
          obtain ⟨rfl, rfl⟩ := Prod.mk.inj (Option.some.inj h)
          exact am_AW.ret ok_L_law rfl rfl rfl (by decide)
      rw [if_neg c49] at h
      by_cases c59 : (((ro 1).2 x3.toNatClampNeg) &&& (63 : Int32)) = (4 : Int32)
      · rw [if_pos c59] at h
        refine am_AW.sw ok_L_law rfl (t := 368) (by rw [c59]; decide +kernel) ?_
        refine am_AW.run am_base_ok ok_L_law (Nat.le_add_left 1 d) 5 (pc1 := 373) (ls1 := [some (.ref (am_rB + 1)), some (.ref 0), some (.ref 63), some (.int x3)]) (st1 := [.int (x3 + (1 : Int32)), .ref (am_rB + 1), .ref 0]) (σ1 := (S0, m)) rfl ?_
        by_cases g60 : am_in (x3 + (1 : Int32)) (ro 1).1 = true
        rotate_left
        · rw [if_neg g60] at h
          cases h
        rw [if_pos g60] at h
        refine am_AW.rold ok_L_law (Nat.le_add_left 1 d) (j := 1) (by decide) rfl g60 ?_
        obtain ⟨q63, hq63, h⟩ := Option.bind_eq_some_iff.mp h
        refine am_AW.callV ok_L_law am_nw_ok (As := [.int ((ro 1).2 (x3 + (1 : Int32)).toNatClampNeg)]) (rest := []) rfl rfl rfl oR_C_feed lk_L_32 iM_C_feed sE_C_feed (qc := kq9) rfl rfl rfl rfl (Nat.le_of_ble_eq_true rfl) (f_C_feed_ok (d := d) (by omega) ((ro 1).2 (x3 + (1 : Int32)).toNatClampNeg) hq63) ?_
        change am_AW am_nw ro (d + 1) mr_L_law 377 [some (.ref (am_rB + 1)), some (.ref 0), some (.ref 63), some (.int x3)] [.int q63.1] (S0, q63.2) (some (.int r)) (S0, m')
        refine am_AW.run am_base_ok ok_L_law (Nat.le_add_left 1 d) 5 (pc1 := 382) (ls1 := [some (.ref (am_rB + 1)), some (.ref 0), some (.ref 63), some (.int x3)]) (st1 := [.int (x3 + (1 : Int32)), .ref (am_rB + 1), .ref 63, .int q63.1]) (σ1 := (S0, q63.2)) rfl ?_
        by_cases g64 : am_in (x3 + (1 : Int32)) (ro 1).1 = true
        rotate_left
        · rw [if_neg g64] at h
          cases h
        rw [if_pos g64] at h
        refine am_AW.rold ok_L_law (Nat.le_add_left 1 d) (j := 1) (by decide) rfl g64 ?_
        obtain ⟨q67, hq67, h⟩ := Option.bind_eq_some_iff.mp h
        refine am_AW.callV ok_L_law am_nw_ok (As := [.int ((ro 1).2 (x3 + (1 : Int32)).toNatClampNeg)]) (rest := [.int q63.1]) rfl rfl rfl oR_M_feed lk_L_35 iM_M_feed sE_M_feed (qc := kq10) rfl rfl rfl rfl (Nat.le_of_ble_eq_true rfl) (f_M_feed_ok (d := d) (by omega) ((ro 1).2 (x3 + (1 : Int32)).toNatClampNeg) hq67) ?_
        change am_AW am_nw ro (d + 1) mr_L_law 386 [some (.ref (am_rB + 1)), some (.ref 0), some (.ref 63), some (.int x3)] [.int q67.1, .int q63.1] (S0, q67.2) (some (.int r)) (S0, m')
        refine am_AW.brP ok_L_law rfl rfl am_c_eq (fun c68 => ?_) (fun c68 => ?_)
        · rw [if_pos c68] at h
          exact am_AW.weak (f_L_law_b1249_ok hd (ih) x3  h) (by simp only [am_le, and_self])
        · rw [if_neg c68] at h
          refine am_AW.run am_base_ok ok_L_law (Nat.le_add_left 1 d) 1 (pc1 := 390) (ls1 := [some (.ref (am_rB + 1)), some (.ref 0), some (.ref 63), some (.int x3)]) (st1 := [.int (0 : Int32)]) (σ1 := (S0, q67.2)) rfl ?_
          obtain ⟨rfl, rfl⟩ := Prod.mk.inj (Option.some.inj h)
          exact am_AW.ret ok_L_law rfl rfl rfl (by decide)
      rw [if_neg c59] at h
      by_cases c69 : (((ro 1).2 x3.toNatClampNeg) &&& (63 : Int32)) = (5 : Int32)
      · rw [if_pos c69] at h
        refine am_AW.sw ok_L_law rfl (t := 391) (by rw [c69]; decide +kernel) ?_
        refine am_AW.run am_base_ok ok_L_law (Nat.le_add_left 1 d) 1 (pc1 := 392) (ls1 := [some (.ref (am_rB + 1)), some (.ref 0), some (.ref 63), some (.int x3)]) (st1 := [.ref 0]) (σ1 := (S0, m)) rfl ?_
        obtain ⟨q72, hq72, h⟩ := Option.bind_eq_some_iff.mp h
        refine am_AW.callV ok_L_law am_nw_ok (As := []) (rest := []) rfl rfl rfl oR_C_polygon lk_L_36 iM_C_polygon sE_C_polygon (qc := kq9) rfl rfl rfl rfl (Nat.le_of_ble_eq_true rfl) (f_C_polygon_ok (d := d) (by omega)  hq72) ?_
        change am_AW am_nw ro (d + 1) mr_L_law 395 [some (.ref (am_rB + 1)), some (.ref 0), some (.ref 63), some (.int x3)] [.int q72.1] (S0, q72.2) (some (.int r)) (S0, m')
        refine am_AW.run am_base_ok ok_L_law (Nat.le_add_left 1 d) 1 (pc1 := 396) (ls1 := [some (.ref (am_rB + 1)), some (.ref 0), some (.ref 63), some (.int x3)]) (st1 := [.ref 63, .int q72.1]) (σ1 := (S0, q72.2)) rfl ?_
        obtain ⟨q75, hq75, h⟩ := Option.bind_eq_some_iff.mp h
        refine am_AW.callV ok_L_law am_nw_ok (As := []) (rest := [.int q72.1]) rfl rfl rfl oR_M_polygon lk_L_40 iM_M_polygon sE_M_polygon (qc := kq10) rfl rfl rfl rfl (Nat.le_of_ble_eq_true rfl) (f_M_polygon_ok (d := d) (by omega)  hq75) ?_
        change am_AW am_nw ro (d + 1) mr_L_law 399 [some (.ref (am_rB + 1)), some (.ref 0), some (.ref 63), some (.int x3)] [.int q75.1, .int q72.1] (S0, q75.2) (some (.int r)) (S0, m')
        refine am_AW.brP ok_L_law rfl rfl am_c_eq (fun c76 => ?_) (fun c76 => ?_)
        · rw [if_pos c76] at h
          exact am_AW.weak (f_L_law_b1249_ok hd (ih) x3  h) (by simp only [am_le, and_self])
        · rw [if_neg c76] at h
          refine am_AW.run am_base_ok ok_L_law (Nat.le_add_left 1 d) 1 (pc1 := 403) (ls1 := [some (.ref (am_rB + 1)), some (.ref 0), some (.ref 63), some (.int x3)]) (st1 := [.int (0 : Int32)]) (σ1 := (S0, q75.2)) rfl ?_
          obtain ⟨rfl, rfl⟩ := Prod.mk.inj (Option.some.inj h)
          exact am_AW.ret ok_L_law rfl rfl rfl (by decide)
      rw [if_neg c69] at h
      by_cases c77 : (((ro 1).2 x3.toNatClampNeg) &&& (63 : Int32)) = (6 : Int32)
      · rw [if_pos c77] at h
        refine am_AW.sw ok_L_law rfl (t := 404) (by rw [c77]; decide +kernel) ?_
        refine am_AW.run am_base_ok ok_L_law (Nat.le_add_left 1 d) 1 (pc1 := 405) (ls1 := [some (.ref (am_rB + 1)), some (.ref 0), some (.ref 63), some (.int x3)]) (st1 := [.ref 0]) (σ1 := (S0, m)) rfl ?_
        obtain ⟨q80, hq80, h⟩ := Option.bind_eq_some_iff.mp h
        refine am_AW.callV ok_L_law am_nw_ok (As := []) (rest := []) rfl rfl rfl oR_C_fault lk_L_41 iM_C_fault sE_C_fault (qc := kq9) rfl rfl rfl rfl (Nat.le_of_ble_eq_true rfl) (f_C_fault_ok (d := d) (by omega)  hq80) ?_
        change am_AW am_nw ro (d + 1) mr_L_law 408 [some (.ref (am_rB + 1)), some (.ref 0), some (.ref 63), some (.int x3)] [.int q80.1] (S0, q80.2) (some (.int r)) (S0, m')
        refine am_AW.run am_base_ok ok_L_law (Nat.le_add_left 1 d) 1 (pc1 := 409) (ls1 := [some (.ref (am_rB + 1)), some (.ref 0), some (.ref 63), some (.int x3)]) (st1 := [.ref 63, .int q80.1]) (σ1 := (S0, q80.2)) rfl ?_
        obtain ⟨q83, hq83, h⟩ := Option.bind_eq_some_iff.mp h
        refine am_AW.callV ok_L_law am_nw_ok (As := []) (rest := [.int q80.1]) rfl rfl rfl oR_M_fault lk_L_44 iM_M_fault sE_M_fault (qc := kq10) rfl rfl rfl rfl (Nat.le_of_ble_eq_true rfl) (f_M_fault_ok (d := d) (by omega)  hq83) ?_
        change am_AW am_nw ro (d + 1) mr_L_law 412 [some (.ref (am_rB + 1)), some (.ref 0), some (.ref 63), some (.int x3)] [.int q83.1, .int q80.1] (S0, q83.2) (some (.int r)) (S0, m')
        refine am_AW.brP ok_L_law rfl rfl am_c_eq (fun c84 => ?_) (fun c84 => ?_)
        · rw [if_pos c84] at h
          exact am_AW.weak (f_L_law_b1249_ok hd (ih) x3  h) (by simp only [am_le, and_self])
        · rw [if_neg c84] at h
          refine am_AW.run am_base_ok ok_L_law (Nat.le_add_left 1 d) 1 (pc1 := 416) (ls1 := [some (.ref (am_rB + 1)), some (.ref 0), some (.ref 63), some (.int x3)]) (st1 := [.int (0 : Int32)]) (σ1 := (S0, q83.2)) rfl ?_
          obtain ⟨rfl, rfl⟩ := Prod.mk.inj (Option.some.inj h)
          exact am_AW.ret ok_L_law rfl rfl rfl (by decide)
      rw [if_neg c77] at h
      by_cases c85 : (((ro 1).2 x3.toNatClampNeg) &&& (63 : Int32)) = (7 : Int32)
      · rw [if_pos c85] at h
        refine am_AW.sw ok_L_law rfl (t := 417) (by rw [c85]; decide +kernel) ?_
        refine am_AW.run am_base_ok ok_L_law (Nat.le_add_left 1 d) 1 (pc1 := 418) (ls1 := [some (.ref (am_rB + 1)), some (.ref 0), some (.ref 63), some (.int x3)]) (st1 := [.ref 0]) (σ1 := (S0, m)) rfl ?_
        obtain ⟨q88, hq88, h⟩ := Option.bind_eq_some_iff.mp h
        refine am_AW.callV ok_L_law am_nw_ok (As := []) (rest := []) rfl rfl rfl oR_C_undo lk_L_45 iM_C_undo sE_C_undo (qc := kq9) rfl rfl rfl rfl (Nat.le_of_ble_eq_true rfl) (f_C_undo_ok (d := d) (by omega)  hq88) ?_
        change am_AW am_nw ro (d + 1) mr_L_law 421 [some (.ref (am_rB + 1)), some (.ref 0), some (.ref 63), some (.int x3)] [.int q88.1] (S0, q88.2) (some (.int r)) (S0, m')
        refine am_AW.run am_base_ok ok_L_law (Nat.le_add_left 1 d) 1 (pc1 := 422) (ls1 := [some (.ref (am_rB + 1)), some (.ref 0), some (.ref 63), some (.int x3)]) (st1 := [.ref 63, .int q88.1]) (σ1 := (S0, q88.2)) rfl ?_
        obtain ⟨q91, hq91, h⟩ := Option.bind_eq_some_iff.mp h
        refine am_AW.callV ok_L_law am_nw_ok (As := []) (rest := [.int q88.1]) rfl rfl rfl oR_M_undo lk_L_48 iM_M_undo sE_M_undo (qc := kq10) rfl rfl rfl rfl (Nat.le_of_ble_eq_true rfl) (f_M_undo_ok (d := d) (by omega)  hq91) ?_
        change am_AW am_nw ro (d + 1) mr_L_law 425 [some (.ref (am_rB + 1)), some (.ref 0), some (.ref 63), some (.int x3)] [.int q91.1, .int q88.1] (S0, q91.2) (some (.int r)) (S0, m')
        refine am_AW.brP ok_L_law rfl rfl am_c_eq (fun c92 => ?_) (fun c92 => ?_)
        · rw [if_pos c92] at h
          exact am_AW.weak (f_L_law_b1249_ok hd (ih) x3  h) (by simp only [am_le, and_self])
        · rw [if_neg c92] at h
          refine am_AW.run am_base_ok ok_L_law (Nat.le_add_left 1 d) 1 (pc1 := 429) (ls1 := [some (.ref (am_rB + 1)), some (.ref 0), some (.ref 63), some (.int x3)]) (st1 := [.int (0 : Int32)]) (σ1 := (S0, q91.2)) rfl ?_
          obtain ⟨rfl, rfl⟩ := Prod.mk.inj (Option.some.inj h)
          exact am_AW.ret ok_L_law rfl rfl rfl (by decide)
      rw [if_neg c85] at h
      by_cases c93 : (((ro 1).2 x3.toNatClampNeg) &&& (63 : Int32)) = (8 : Int32)
      · rw [if_pos c93] at h
        refine am_AW.sw ok_L_law rfl (t := 430) (by rw [c93]; decide +kernel) ?_
        refine am_AW.run am_base_ok ok_L_law (Nat.le_add_left 1 d) 5 (pc1 := 435) (ls1 := [some (.ref (am_rB + 1)), some (.ref 0), some (.ref 63), some (.int x3)]) (st1 := [.int (x3 + (1 : Int32)), .ref (am_rB + 1), .ref 0]) (σ1 := (S0, m)) rfl ?_
        by_cases g94 : am_in (x3 + (1 : Int32)) (ro 1).1 = true
        rotate_left
        · rw [if_neg g94] at h
          cases h
        rw [if_pos g94] at h
        refine am_AW.rold ok_L_law (Nat.le_add_left 1 d) (j := 1) (by decide) rfl g94 ?_
        refine am_AW.run am_base_ok ok_L_law (Nat.le_add_left 1 d) 4 (pc1 := 440) (ls1 := [some (.ref (am_rB + 1)), some (.ref 0), some (.ref 63), some (.int x3)]) (st1 := [.int (x3 + (2 : Int32)), .ref (am_rB + 1), .int ((ro 1).2 (x3 + (1 : Int32)).toNatClampNeg), .ref 0]) (σ1 := (S0, m)) rfl ?_
        by_cases g95 : am_in (x3 + (2 : Int32)) (ro 1).1 = true
        rotate_left
        · rw [if_neg g95] at h
          cases h
        rw [if_pos g95] at h
        refine am_AW.rold ok_L_law (Nat.le_add_left 1 d) (j := 1) (by decide) rfl g95 ?_
        obtain ⟨q98, hq98, h⟩ := Option.bind_eq_some_iff.mp h
        refine am_AW.callV ok_L_law am_nw_ok (As := [.int ((ro 1).2 (x3 + (1 : Int32)).toNatClampNeg), .int ((ro 1).2 (x3 + (2 : Int32)).toNatClampNeg)]) (rest := []) rfl rfl rfl oR_C_cut lk_L_49 iM_C_cut sE_C_cut (qc := kq9) rfl rfl rfl rfl (Nat.le_of_ble_eq_true rfl) (f_C_cut_ok (d := d) (by omega) ((ro 1).2 (x3 + (1 : Int32)).toNatClampNeg) ((ro 1).2 (x3 + (2 : Int32)).toNatClampNeg) hq98) ?_
        change am_AW am_nw ro (d + 1) mr_L_law 444 [some (.ref (am_rB + 1)), some (.ref 0), some (.ref 63), some (.int x3)] [.int q98.1] (S0, q98.2) (some (.int r)) (S0, m')
        refine am_AW.run am_base_ok ok_L_law (Nat.le_add_left 1 d) 5 (pc1 := 449) (ls1 := [some (.ref (am_rB + 1)), some (.ref 0), some (.ref 63), some (.int x3)]) (st1 := [.int (x3 + (1 : Int32)), .ref (am_rB + 1), .ref 63, .int q98.1]) (σ1 := (S0, q98.2)) rfl ?_
        by_cases g99 : am_in (x3 + (1 : Int32)) (ro 1).1 = true
        rotate_left
        · rw [if_neg g99] at h
          cases h
        rw [if_pos g99] at h
        refine am_AW.rold ok_L_law (Nat.le_add_left 1 d) (j := 1) (by decide) rfl g99 ?_
        refine am_AW.run am_base_ok ok_L_law (Nat.le_add_left 1 d) 4 (pc1 := 454) (ls1 := [some (.ref (am_rB + 1)), some (.ref 0), some (.ref 63), some (.int x3)]) (st1 := [.int (x3 + (2 : Int32)), .ref (am_rB + 1), .int ((ro 1).2 (x3 + (1 : Int32)).toNatClampNeg), .ref 63, .int q98.1]) (σ1 := (S0, q98.2)) rfl ?_
        by_cases g100 : am_in (x3 + (2 : Int32)) (ro 1).1 = true
        rotate_left
        · rw [if_neg g100] at h
          cases h
        rw [if_pos g100] at h
        refine am_AW.rold ok_L_law (Nat.le_add_left 1 d) (j := 1) (by decide) rfl g100 ?_
        obtain ⟨q103, hq103, h⟩ := Option.bind_eq_some_iff.mp h
        refine am_AW.callV ok_L_law am_nw_ok (As := [.int ((ro 1).2 (x3 + (1 : Int32)).toNatClampNeg), .int ((ro 1).2 (x3 + (2 : Int32)).toNatClampNeg)]) (rest := [.int q98.1]) rfl rfl rfl oR_M_cut lk_L_53 iM_M_cut sE_M_cut (qc := kq10) rfl rfl rfl rfl (Nat.le_of_ble_eq_true rfl) (f_M_cut_ok (d := d) (by omega) ((ro 1).2 (x3 + (1 : Int32)).toNatClampNeg) ((ro 1).2 (x3 + (2 : Int32)).toNatClampNeg) hq103) ?_
        change am_AW am_nw ro (d + 1) mr_L_law 458 [some (.ref (am_rB + 1)), some (.ref 0), some (.ref 63), some (.int x3)] [.int q103.1, .int q98.1] (S0, q103.2) (some (.int r)) (S0, m')
        refine am_AW.brP ok_L_law rfl rfl am_c_eq (fun c104 => ?_) (fun c104 => ?_)
        · rw [if_pos c104] at h
          exact am_AW.weak (f_L_law_b1249_ok hd (ih) x3  h) (by simp only [am_le, and_self])
        · rw [if_neg c104] at h
          refine am_AW.run am_base_ok ok_L_law (Nat.le_add_left 1 d) 1 (pc1 := 462) (ls1 := [some (.ref (am_rB + 1)), some (.ref 0), some (.ref 63), some (.int x3)]) (st1 := [.int (0 : Int32)]) (σ1 := (S0, q103.2)) rfl ?_
          obtain ⟨rfl, rfl⟩ := Prod.mk.inj (Option.some.inj h)
          exact am_AW.ret ok_L_law rfl rfl rfl (by decide)
      rw [if_neg c93] at h
      by_cases c105 : (((ro 1).2 x3.toNatClampNeg) &&& (63 : Int32)) = (9 : Int32)
      · rw [if_pos c105] at h
        refine am_AW.sw ok_L_law rfl (t := 463) (by rw [c105]; decide +kernel) ?_
        refine am_AW.run am_base_ok ok_L_law (Nat.le_add_left 1 d) 5 (pc1 := 468) (ls1 := [some (.ref (am_rB + 1)), some (.ref 0), some (.ref 63), some (.int x3)]) (st1 := [.int (x3 + (1 : Int32)), .ref (am_rB + 1), .ref 0]) (σ1 := (S0, m)) rfl ?_
        by_cases g106 : am_in (x3 + (1 : Int32)) (ro 1).1 = true
        rotate_left
        · rw [if_neg g106] at h
          cases h
        rw [if_pos g106] at h
        refine am_AW.rold ok_L_law (Nat.le_add_left 1 d) (j := 1) (by decide) rfl g106 ?_
        obtain ⟨q109, hq109, h⟩ := Option.bind_eq_some_iff.mp h
        refine am_AW.callV ok_L_law am_nw_ok (As := [.int ((ro 1).2 (x3 + (1 : Int32)).toNatClampNeg)]) (rest := []) rfl rfl rfl oR_C_join lk_L_54 iM_C_join sE_C_join (qc := kq9) rfl rfl rfl rfl (Nat.le_of_ble_eq_true rfl) (f_C_join_ok (d := d) (by omega) ((ro 1).2 (x3 + (1 : Int32)).toNatClampNeg) hq109) ?_
        change am_AW am_nw ro (d + 1) mr_L_law 472 [some (.ref (am_rB + 1)), some (.ref 0), some (.ref 63), some (.int x3)] [.int q109.1] (S0, q109.2) (some (.int r)) (S0, m')
        refine am_AW.run am_base_ok ok_L_law (Nat.le_add_left 1 d) 5 (pc1 := 477) (ls1 := [some (.ref (am_rB + 1)), some (.ref 0), some (.ref 63), some (.int x3)]) (st1 := [.int (x3 + (1 : Int32)), .ref (am_rB + 1), .ref 63, .int q109.1]) (σ1 := (S0, q109.2)) rfl ?_
        by_cases g110 : am_in (x3 + (1 : Int32)) (ro 1).1 = true
        rotate_left
        · rw [if_neg g110] at h
          cases h
        rw [if_pos g110] at h
        refine am_AW.rold ok_L_law (Nat.le_add_left 1 d) (j := 1) (by decide) rfl g110 ?_
        obtain ⟨q113, hq113, h⟩ := Option.bind_eq_some_iff.mp h
        refine am_AW.callV ok_L_law am_nw_ok (As := [.int ((ro 1).2 (x3 + (1 : Int32)).toNatClampNeg)]) (rest := [.int q109.1]) rfl rfl rfl oR_M_join lk_L_57 iM_M_join sE_M_join (qc := kq10) rfl rfl rfl rfl (Nat.le_of_ble_eq_true rfl) (f_M_join_ok (d := d) (by omega) ((ro 1).2 (x3 + (1 : Int32)).toNatClampNeg) hq113) ?_
        change am_AW am_nw ro (d + 1) mr_L_law 481 [some (.ref (am_rB + 1)), some (.ref 0), some (.ref 63), some (.int x3)] [.int q113.1, .int q109.1] (S0, q113.2) (some (.int r)) (S0, m')
        refine am_AW.brP ok_L_law rfl rfl am_c_eq (fun c114 => ?_) (fun c114 => ?_)
        · rw [if_pos c114] at h
          exact am_AW.weak (f_L_law_b1249_ok hd (ih) x3  h) (by simp only [am_le, and_self])
        · rw [if_neg c114] at h
          refine am_AW.run am_base_ok ok_L_law (Nat.le_add_left 1 d) 1 (pc1 := 485) (ls1 := [some (.ref (am_rB + 1)), some (.ref 0), some (.ref 63), some (.int x3)]) (st1 := [.int (0 : Int32)]) (σ1 := (S0, q113.2)) rfl ?_
          obtain ⟨rfl, rfl⟩ := Prod.mk.inj (Option.some.inj h)
          exact am_AW.ret ok_L_law rfl rfl rfl (by decide)
      rw [if_neg c105] at h
      by_cases c115 : (((ro 1).2 x3.toNatClampNeg) &&& (63 : Int32)) = (10 : Int32)
      · rw [if_pos c115] at h
        refine am_AW.sw ok_L_law rfl (t := 486) (by rw [c115]; decide +kernel) ?_
        refine am_AW.run am_base_ok ok_L_law (Nat.le_add_left 1 d) 5 (pc1 := 491) (ls1 := [some (.ref (am_rB + 1)), some (.ref 0), some (.ref 63), some (.int x3)]) (st1 := [.int (x3 + (1 : Int32)), .ref (am_rB + 1), .ref 0]) (σ1 := (S0, m)) rfl ?_
        by_cases g116 : am_in (x3 + (1 : Int32)) (ro 1).1 = true
        rotate_left
        · rw [if_neg g116] at h
          cases h
        rw [if_pos g116] at h
        refine am_AW.rold ok_L_law (Nat.le_add_left 1 d) (j := 1) (by decide) rfl g116 ?_
        obtain ⟨q119, hq119, h⟩ := Option.bind_eq_some_iff.mp h
        refine am_AW.callV ok_L_law am_nw_ok (As := [.int ((ro 1).2 (x3 + (1 : Int32)).toNatClampNeg)]) (rest := []) rfl rfl rfl oR_C_flip lk_L_58 iM_C_flip sE_C_flip (qc := kq9) rfl rfl rfl rfl (Nat.le_of_ble_eq_true rfl) (f_C_flip_ok (d := d) (by omega) ((ro 1).2 (x3 + (1 : Int32)).toNatClampNeg) hq119) ?_
        change am_AW am_nw ro (d + 1) mr_L_law 495 [some (.ref (am_rB + 1)), some (.ref 0), some (.ref 63), some (.int x3)] [.int q119.1] (S0, q119.2) (some (.int r)) (S0, m')
        refine am_AW.run am_base_ok ok_L_law (Nat.le_add_left 1 d) 5 (pc1 := 500) (ls1 := [some (.ref (am_rB + 1)), some (.ref 0), some (.ref 63), some (.int x3)]) (st1 := [.int (x3 + (1 : Int32)), .ref (am_rB + 1), .ref 63, .int q119.1]) (σ1 := (S0, q119.2)) rfl ?_
        by_cases g120 : am_in (x3 + (1 : Int32)) (ro 1).1 = true
        rotate_left
        · rw [if_neg g120] at h
          cases h
        rw [if_pos g120] at h
        refine am_AW.rold ok_L_law (Nat.le_add_left 1 d) (j := 1) (by decide) rfl g120 ?_
        obtain ⟨q123, hq123, h⟩ := Option.bind_eq_some_iff.mp h
        refine am_AW.callV ok_L_law am_nw_ok (As := [.int ((ro 1).2 (x3 + (1 : Int32)).toNatClampNeg)]) (rest := [.int q119.1]) rfl rfl rfl oR_M_flip lk_L_61 iM_M_flip sE_M_flip (qc := kq10) rfl rfl rfl rfl (Nat.le_of_ble_eq_true rfl) (f_M_flip_ok (d := d) (by omega) ((ro 1).2 (x3 + (1 : Int32)).toNatClampNeg) hq123) ?_
        change am_AW am_nw ro (d + 1) mr_L_law 504 [some (.ref (am_rB + 1)), some (.ref 0), some (.ref 63), some (.int x3)] [.int q123.1, .int q119.1] (S0, q123.2) (some (.int r)) (S0, m')
        refine am_AW.brP ok_L_law rfl rfl am_c_eq (fun c124 => ?_) (fun c124 => ?_)
        · rw [if_pos c124] at h
          exact am_AW.weak (f_L_law_b1249_ok hd (ih) x3  h) (by simp only [am_le, and_self])
        · rw [if_neg c124] at h
          refine am_AW.run am_base_ok ok_L_law (Nat.le_add_left 1 d) 1 (pc1 := 508) (ls1 := [some (.ref (am_rB + 1)), some (.ref 0), some (.ref 63), some (.int x3)]) (st1 := [.int (0 : Int32)]) (σ1 := (S0, q123.2)) rfl ?_
          obtain ⟨rfl, rfl⟩ := Prod.mk.inj (Option.some.inj h)
          exact am_AW.ret ok_L_law rfl rfl rfl (by decide)
      rw [if_neg c115] at h
      by_cases c125 : (((ro 1).2 x3.toNatClampNeg) &&& (63 : Int32)) = (11 : Int32)
      · rw [if_pos c125] at h
        refine am_AW.sw ok_L_law rfl (t := 509) (by rw [c125]; decide +kernel) ?_
        refine am_AW.run am_base_ok ok_L_law (Nat.le_add_left 1 d) 5 (pc1 := 514) (ls1 := [some (.ref (am_rB + 1)), some (.ref 0), some (.ref 63), some (.int x3)]) (st1 := [.int (x3 + (1 : Int32)), .ref (am_rB + 1), .ref 0]) (σ1 := (S0, m)) rfl ?_
        by_cases g126 : am_in (x3 + (1 : Int32)) (ro 1).1 = true
        rotate_left
        · rw [if_neg g126] at h
          cases h
        rw [if_pos g126] at h
        refine am_AW.rold ok_L_law (Nat.le_add_left 1 d) (j := 1) (by decide) rfl g126 ?_
        obtain ⟨q129, hq129, h⟩ := Option.bind_eq_some_iff.mp h
        refine am_AW.callV ok_L_law am_nw_ok (As := [.int ((ro 1).2 (x3 + (1 : Int32)).toNatClampNeg)]) (rest := []) rfl rfl rfl oR_C_turn lk_L_62 iM_C_turn sE_C_turn (qc := kq9) rfl rfl rfl rfl (Nat.le_of_ble_eq_true rfl) (f_C_turn_ok (d := d) (by omega) ((ro 1).2 (x3 + (1 : Int32)).toNatClampNeg) hq129) ?_
        change am_AW am_nw ro (d + 1) mr_L_law 518 [some (.ref (am_rB + 1)), some (.ref 0), some (.ref 63), some (.int x3)] [.int q129.1] (S0, q129.2) (some (.int r)) (S0, m')
        refine am_AW.run am_base_ok ok_L_law (Nat.le_add_left 1 d) 5 (pc1 := 523) (ls1 := [some (.ref (am_rB + 1)), some (.ref 0), some (.ref 63), some (.int x3)]) (st1 := [.int (x3 + (1 : Int32)), .ref (am_rB + 1), .ref 63, .int q129.1]) (σ1 := (S0, q129.2)) rfl ?_
        by_cases g130 : am_in (x3 + (1 : Int32)) (ro 1).1 = true
        rotate_left
        · rw [if_neg g130] at h
          cases h
        rw [if_pos g130] at h
        refine am_AW.rold ok_L_law (Nat.le_add_left 1 d) (j := 1) (by decide) rfl g130 ?_
        obtain ⟨q133, hq133, h⟩ := Option.bind_eq_some_iff.mp h
        refine am_AW.callV ok_L_law am_nw_ok (As := [.int ((ro 1).2 (x3 + (1 : Int32)).toNatClampNeg)]) (rest := [.int q129.1]) rfl rfl rfl oR_M_turn lk_L_65 iM_M_turn sE_M_turn (qc := kq10) rfl rfl rfl rfl (Nat.le_of_ble_eq_true rfl) (f_M_turn_ok (d := d) (by omega) ((ro 1).2 (x3 + (1 : Int32)).toNatClampNeg) hq133) ?_
        change am_AW am_nw ro (d + 1) mr_L_law 527 [some (.ref (am_rB + 1)), some (.ref 0), some (.ref 63), some (.int x3)] [.int q133.1, .int q129.1] (S0, q133.2) (some (.int r)) (S0, m')
        refine am_AW.brP ok_L_law rfl rfl am_c_eq (fun c134 => ?_) (fun c134 => ?_)
        · rw [if_pos c134] at h
          exact am_AW.weak (f_L_law_b1249_ok hd (ih) x3  h) (by simp only [am_le, and_self])
        · rw [if_neg c134] at h
          refine am_AW.run am_base_ok ok_L_law (Nat.le_add_left 1 d) 1 (pc1 := 531) (ls1 := [some (.ref (am_rB + 1)), some (.ref 0), some (.ref 63), some (.int x3)]) (st1 := [.int (0 : Int32)]) (σ1 := (S0, q133.2)) rfl ?_
          obtain ⟨rfl, rfl⟩ := Prod.mk.inj (Option.some.inj h)
          exact am_AW.ret ok_L_law rfl rfl rfl (by decide)
      rw [if_neg c125] at h
      by_cases c135 : (((ro 1).2 x3.toNatClampNeg) &&& (63 : Int32)) = (12 : Int32)
      · rw [if_pos c135] at h
        refine am_AW.sw ok_L_law rfl (t := 532) (by rw [c135]; decide +kernel) ?_
        refine am_AW.run am_base_ok ok_L_law (Nat.le_add_left 1 d) 1 (pc1 := 533) (ls1 := [some (.ref (am_rB + 1)), some (.ref 0), some (.ref 63), some (.int x3)]) (st1 := [.ref 0]) (σ1 := (S0, m)) rfl ?_
        obtain ⟨q138, hq138, h⟩ := Option.bind_eq_some_iff.mp h
        refine am_AW.callV ok_L_law am_nw_ok (As := []) (rest := []) rfl rfl rfl oR_C_mirror lk_L_66 iM_C_mirror sE_C_mirror (qc := kq9) rfl rfl rfl rfl (Nat.le_of_ble_eq_true rfl) (f_C_mirror_ok (d := d) (by omega)  hq138) ?_
        change am_AW am_nw ro (d + 1) mr_L_law 536 [some (.ref (am_rB + 1)), some (.ref 0), some (.ref 63), some (.int x3)] [.int q138.1] (S0, q138.2) (some (.int r)) (S0, m')
        refine am_AW.run am_base_ok ok_L_law (Nat.le_add_left 1 d) 1 (pc1 := 537) (ls1 := [some (.ref (am_rB + 1)), some (.ref 0), some (.ref 63), some (.int x3)]) (st1 := [.ref 63, .int q138.1]) (σ1 := (S0, q138.2)) rfl ?_
        obtain ⟨q141, hq141, h⟩ := Option.bind_eq_some_iff.mp h
        refine am_AW.callV ok_L_law am_nw_ok (As := []) (rest := [.int q138.1]) rfl rfl rfl oR_M_mirror lk_L_69 iM_M_mirror sE_M_mirror (qc := kq10) rfl rfl rfl rfl (Nat.le_of_ble_eq_true rfl) (f_M_mirror_ok (d := d) (by omega)  hq141) ?_
        change am_AW am_nw ro (d + 1) mr_L_law 540 [some (.ref (am_rB + 1)), some (.ref 0), some (.ref 63), some (.int x3)] [.int q141.1, .int q138.1] (S0, q141.2) (some (.int r)) (S0, m')
        refine am_AW.brP ok_L_law rfl rfl am_c_eq (fun c142 => ?_) (fun c142 => ?_)
        · rw [if_pos c142] at h
          exact am_AW.weak (f_L_law_b1249_ok hd (ih) x3  h) (by simp only [am_le, and_self])
        · rw [if_neg c142] at h
          refine am_AW.run am_base_ok ok_L_law (Nat.le_add_left 1 d) 1 (pc1 := 544) (ls1 := [some (.ref (am_rB + 1)), some (.ref 0), some (.ref 63), some (.int x3)]) (st1 := [.int (0 : Int32)]) (σ1 := (S0, q141.2)) rfl ?_
          obtain ⟨rfl, rfl⟩ := Prod.mk.inj (Option.some.inj h)
          exact am_AW.ret ok_L_law rfl rfl rfl (by decide)
      rw [if_neg c135] at h
      by_cases c143 : (((ro 1).2 x3.toNatClampNeg) &&& (63 : Int32)) = (13 : Int32)
      · rw [if_pos c143] at h
        refine am_AW.sw ok_L_law rfl (t := 545) (by rw [c143]; decide +kernel) ?_
        refine am_AW.run am_base_ok ok_L_law (Nat.le_add_left 1 d) 5 (pc1 := 550) (ls1 := [some (.ref (am_rB + 1)), some (.ref 0), some (.ref 63), some (.int x3)]) (st1 := [.int (x3 + (1 : Int32)), .ref (am_rB + 1), .ref 0]) (σ1 := (S0, m)) rfl ?_
        by_cases g144 : am_in (x3 + (1 : Int32)) (ro 1).1 = true
        rotate_left
        · rw [if_neg g144] at h
          cases h
        rw [if_pos g144] at h
        refine am_AW.rold ok_L_law (Nat.le_add_left 1 d) (j := 1) (by decide) rfl g144 ?_
        refine am_AW.run am_base_ok ok_L_law (Nat.le_add_left 1 d) 4 (pc1 := 555) (ls1 := [some (.ref (am_rB + 1)), some (.ref 0), some (.ref 63), some (.int x3)]) (st1 := [.int (x3 + (2 : Int32)), .ref (am_rB + 1), .int ((ro 1).2 (x3 + (1 : Int32)).toNatClampNeg), .ref 0]) (σ1 := (S0, m)) rfl ?_
        by_cases g145 : am_in (x3 + (2 : Int32)) (ro 1).1 = true
        rotate_left
        · rw [if_neg g145] at h
          cases h
        rw [if_pos g145] at h
        refine am_AW.rold ok_L_law (Nat.le_add_left 1 d) (j := 1) (by decide) rfl g145 ?_
        obtain ⟨q148, hq148, h⟩ := Option.bind_eq_some_iff.mp h
        refine am_AW.callV ok_L_law am_nw_ok (As := [.int ((ro 1).2 (x3 + (1 : Int32)).toNatClampNeg), .int ((ro 1).2 (x3 + (2 : Int32)).toNatClampNeg)]) (rest := []) rfl rfl rfl oR_C_become lk_L_70 iM_C_become sE_C_become (qc := kq9) rfl rfl rfl rfl (Nat.le_of_ble_eq_true rfl) (f_C_become_ok (d := d) (by omega) ((ro 1).2 (x3 + (1 : Int32)).toNatClampNeg) ((ro 1).2 (x3 + (2 : Int32)).toNatClampNeg) hq148) ?_
        change am_AW am_nw ro (d + 1) mr_L_law 559 [some (.ref (am_rB + 1)), some (.ref 0), some (.ref 63), some (.int x3)] [.int q148.1] (S0, q148.2) (some (.int r)) (S0, m')
        refine am_AW.run am_base_ok ok_L_law (Nat.le_add_left 1 d) 5 (pc1 := 564) (ls1 := [some (.ref (am_rB + 1)), some (.ref 0), some (.ref 63), some (.int x3)]) (st1 := [.int (x3 + (1 : Int32)), .ref (am_rB + 1), .ref 63, .int q148.1]) (σ1 := (S0, q148.2)) rfl ?_
        by_cases g149 : am_in (x3 + (1 : Int32)) (ro 1).1 = true
        rotate_left
        · rw [if_neg g149] at h
          cases h
        rw [if_pos g149] at h
        refine am_AW.rold ok_L_law (Nat.le_add_left 1 d) (j := 1) (by decide) rfl g149 ?_
        refine am_AW.run am_base_ok ok_L_law (Nat.le_add_left 1 d) 4 (pc1 := 569) (ls1 := [some (.ref (am_rB + 1)), some (.ref 0), some (.ref 63), some (.int x3)]) (st1 := [.int (x3 + (2 : Int32)), .ref (am_rB + 1), .int ((ro 1).2 (x3 + (1 : Int32)).toNatClampNeg), .ref 63, .int q148.1]) (σ1 := (S0, q148.2)) rfl ?_
        by_cases g150 : am_in (x3 + (2 : Int32)) (ro 1).1 = true
        rotate_left
        · rw [if_neg g150] at h
          cases h
        rw [if_pos g150] at h
        refine am_AW.rold ok_L_law (Nat.le_add_left 1 d) (j := 1) (by decide) rfl g150 ?_
        obtain ⟨q153, hq153, h⟩ := Option.bind_eq_some_iff.mp h
        refine am_AW.callV ok_L_law am_nw_ok (As := [.int ((ro 1).2 (x3 + (1 : Int32)).toNatClampNeg), .int ((ro 1).2 (x3 + (2 : Int32)).toNatClampNeg)]) (rest := [.int q148.1]) rfl rfl rfl oR_M_become lk_L_73 iM_M_become sE_M_become (qc := kq10) rfl rfl rfl rfl (Nat.le_of_ble_eq_true rfl) (f_M_become_ok (d := d) (by omega) ((ro 1).2 (x3 + (1 : Int32)).toNatClampNeg) ((ro 1).2 (x3 + (2 : Int32)).toNatClampNeg) hq153) ?_
        change am_AW am_nw ro (d + 1) mr_L_law 573 [some (.ref (am_rB + 1)), some (.ref 0), some (.ref 63), some (.int x3)] [.int q153.1, .int q148.1] (S0, q153.2) (some (.int r)) (S0, m')
        refine am_AW.brP ok_L_law rfl rfl am_c_eq (fun c154 => ?_) (fun c154 => ?_)
        · rw [if_pos c154] at h
          exact am_AW.weak (f_L_law_b1249_ok hd (ih) x3  h) (by simp only [am_le, and_self])
        · rw [if_neg c154] at h
          refine am_AW.run am_base_ok ok_L_law (Nat.le_add_left 1 d) 1 (pc1 := 577) (ls1 := [some (.ref (am_rB + 1)), some (.ref 0), some (.ref 63), some (.int x3)]) (st1 := [.int (0 : Int32)]) (σ1 := (S0, q153.2)) rfl ?_
          obtain ⟨rfl, rfl⟩ := Prod.mk.inj (Option.some.inj h)
          exact am_AW.ret ok_L_law rfl rfl rfl (by decide)
      rw [if_neg c143] at h
      by_cases c155 : (((ro 1).2 x3.toNatClampNeg) &&& (63 : Int32)) = (14 : Int32)
      · rw [if_pos c155] at h
        refine am_AW.sw ok_L_law rfl (t := 578) (by rw [c155]; decide +kernel) ?_
        refine am_AW.run am_base_ok ok_L_law (Nat.le_add_left 1 d) 5 (pc1 := 583) (ls1 := [some (.ref (am_rB + 1)), some (.ref 0), some (.ref 63), some (.int x3)]) (st1 := [.int (x3 + (1 : Int32)), .ref (am_rB + 1), .ref 0]) (σ1 := (S0, m)) rfl ?_
        by_cases g156 : am_in (x3 + (1 : Int32)) (ro 1).1 = true
        rotate_left
        · rw [if_neg g156] at h
          cases h
        rw [if_pos g156] at h
        refine am_AW.rold ok_L_law (Nat.le_add_left 1 d) (j := 1) (by decide) rfl g156 ?_
        refine am_AW.run am_base_ok ok_L_law (Nat.le_add_left 1 d) 4 (pc1 := 588) (ls1 := [some (.ref (am_rB + 1)), some (.ref 0), some (.ref 63), some (.int x3)]) (st1 := [.int (x3 + (2 : Int32)), .ref (am_rB + 1), .int ((ro 1).2 (x3 + (1 : Int32)).toNatClampNeg), .ref 0]) (σ1 := (S0, m)) rfl ?_
        by_cases g157 : am_in (x3 + (2 : Int32)) (ro 1).1 = true
        rotate_left
        · rw [if_neg g157] at h
          cases h
        rw [if_pos g157] at h
        refine am_AW.rold ok_L_law (Nat.le_add_left 1 d) (j := 1) (by decide) rfl g157 ?_
        obtain ⟨q160, hq160, h⟩ := Option.bind_eq_some_iff.mp h
        refine am_AW.callV ok_L_law am_nw_ok (As := [.int ((ro 1).2 (x3 + (1 : Int32)).toNatClampNeg), .int ((ro 1).2 (x3 + (2 : Int32)).toNatClampNeg)]) (rest := []) rfl rfl rfl oR_C_number lk_L_74 iM_C_number sE_C_number (qc := kq9) rfl rfl rfl rfl (Nat.le_of_ble_eq_true rfl) (f_C_number_ok (d := d) (by omega) ((ro 1).2 (x3 + (1 : Int32)).toNatClampNeg) ((ro 1).2 (x3 + (2 : Int32)).toNatClampNeg) hq160) ?_
        change am_AW am_nw ro (d + 1) mr_L_law 592 [some (.ref (am_rB + 1)), some (.ref 0), some (.ref 63), some (.int x3)] [.int q160.1] (S0, q160.2) (some (.int r)) (S0, m')
        refine am_AW.run am_base_ok ok_L_law (Nat.le_add_left 1 d) 5 (pc1 := 597) (ls1 := [some (.ref (am_rB + 1)), some (.ref 0), some (.ref 63), some (.int x3)]) (st1 := [.int (x3 + (1 : Int32)), .ref (am_rB + 1), .ref 63, .int q160.1]) (σ1 := (S0, q160.2)) rfl ?_
        by_cases g161 : am_in (x3 + (1 : Int32)) (ro 1).1 = true
        rotate_left
        · rw [if_neg g161] at h
          cases h
        rw [if_pos g161] at h
        refine am_AW.rold ok_L_law (Nat.le_add_left 1 d) (j := 1) (by decide) rfl g161 ?_
        refine am_AW.run am_base_ok ok_L_law (Nat.le_add_left 1 d) 4 (pc1 := 602) (ls1 := [some (.ref (am_rB + 1)), some (.ref 0), some (.ref 63), some (.int x3)]) (st1 := [.int (x3 + (2 : Int32)), .ref (am_rB + 1), .int ((ro 1).2 (x3 + (1 : Int32)).toNatClampNeg), .ref 63, .int q160.1]) (σ1 := (S0, q160.2)) rfl ?_
        by_cases g162 : am_in (x3 + (2 : Int32)) (ro 1).1 = true
        rotate_left
        · rw [if_neg g162] at h
          cases h
        rw [if_pos g162] at h
        refine am_AW.rold ok_L_law (Nat.le_add_left 1 d) (j := 1) (by decide) rfl g162 ?_
        obtain ⟨q165, hq165, h⟩ := Option.bind_eq_some_iff.mp h
        refine am_AW.callV ok_L_law am_nw_ok (As := [.int ((ro 1).2 (x3 + (1 : Int32)).toNatClampNeg), .int ((ro 1).2 (x3 + (2 : Int32)).toNatClampNeg)]) (rest := [.int q160.1]) rfl rfl rfl oR_M_number lk_L_77 iM_M_number sE_M_number (qc := kq10) rfl rfl rfl rfl (Nat.le_of_ble_eq_true rfl) (f_M_number_ok (d := d) (by omega) ((ro 1).2 (x3 + (1 : Int32)).toNatClampNeg) ((ro 1).2 (x3 + (2 : Int32)).toNatClampNeg) hq165) ?_
        change am_AW am_nw ro (d + 1) mr_L_law 606 [some (.ref (am_rB + 1)), some (.ref 0), some (.ref 63), some (.int x3)] [.int q165.1, .int q160.1] (S0, q165.2) (some (.int r)) (S0, m')
        refine am_AW.brP ok_L_law rfl rfl am_c_eq (fun c166 => ?_) (fun c166 => ?_)
        · rw [if_pos c166] at h
          exact am_AW.weak (f_L_law_b1249_ok hd (ih) x3  h) (by simp only [am_le, and_self])
        · rw [if_neg c166] at h
          refine am_AW.run am_base_ok ok_L_law (Nat.le_add_left 1 d) 1 (pc1 := 610) (ls1 := [some (.ref (am_rB + 1)), some (.ref 0), some (.ref 63), some (.int x3)]) (st1 := [.int (0 : Int32)]) (σ1 := (S0, q165.2)) rfl ?_
          obtain ⟨rfl, rfl⟩ := Prod.mk.inj (Option.some.inj h)
          exact am_AW.ret ok_L_law rfl rfl rfl (by decide)
      rw [if_neg c155] at h
      by_cases c167 : (((ro 1).2 x3.toNatClampNeg) &&& (63 : Int32)) = (15 : Int32)
      · rw [if_pos c167] at h
        refine am_AW.sw ok_L_law rfl (t := 611) (by rw [c167]; decide +kernel) ?_
        refine am_AW.run am_base_ok ok_L_law (Nat.le_add_left 1 d) 5 (pc1 := 616) (ls1 := [some (.ref (am_rB + 1)), some (.ref 0), some (.ref 63), some (.int x3)]) (st1 := [.int (x3 + (1 : Int32)), .ref (am_rB + 1), .ref 0]) (σ1 := (S0, m)) rfl ?_
        by_cases g168 : am_in (x3 + (1 : Int32)) (ro 1).1 = true
        rotate_left
        · rw [if_neg g168] at h
          cases h
        rw [if_pos g168] at h
        refine am_AW.rold ok_L_law (Nat.le_add_left 1 d) (j := 1) (by decide) rfl g168 ?_
        obtain ⟨q171, hq171, h⟩ := Option.bind_eq_some_iff.mp h
        refine am_AW.callV ok_L_law am_nw_ok (As := [.int ((ro 1).2 (x3 + (1 : Int32)).toNatClampNeg)]) (rest := []) rfl rfl rfl oR_C_lay lk_L_78 iM_C_lay sE_C_lay (qc := kq9) rfl rfl rfl rfl (Nat.le_of_ble_eq_true rfl) (f_C_lay_ok (d := d) (by omega) ((ro 1).2 (x3 + (1 : Int32)).toNatClampNeg) hq171) ?_
        change am_AW am_nw ro (d + 1) mr_L_law 620 [some (.ref (am_rB + 1)), some (.ref 0), some (.ref 63), some (.int x3)] [.int q171.1] (S0, q171.2) (some (.int r)) (S0, m')
        refine am_AW.run am_base_ok ok_L_law (Nat.le_add_left 1 d) 5 (pc1 := 625) (ls1 := [some (.ref (am_rB + 1)), some (.ref 0), some (.ref 63), some (.int x3)]) (st1 := [.int (x3 + (1 : Int32)), .ref (am_rB + 1), .ref 63, .int q171.1]) (σ1 := (S0, q171.2)) rfl ?_
        by_cases g172 : am_in (x3 + (1 : Int32)) (ro 1).1 = true
        rotate_left
        · rw [if_neg g172] at h
          cases h
        rw [if_pos g172] at h
        refine am_AW.rold ok_L_law (Nat.le_add_left 1 d) (j := 1) (by decide) rfl g172 ?_
        obtain ⟨q175, hq175, h⟩ := Option.bind_eq_some_iff.mp h
        refine am_AW.callV ok_L_law am_nw_ok (As := [.int ((ro 1).2 (x3 + (1 : Int32)).toNatClampNeg)]) (rest := [.int q171.1]) rfl rfl rfl oR_M_lay lk_L_81 iM_M_lay sE_M_lay (qc := kq10) rfl rfl rfl rfl (Nat.le_of_ble_eq_true rfl) (f_M_lay_ok (d := d) (by omega) ((ro 1).2 (x3 + (1 : Int32)).toNatClampNeg) hq175) ?_
        change am_AW am_nw ro (d + 1) mr_L_law 629 [some (.ref (am_rB + 1)), some (.ref 0), some (.ref 63), some (.int x3)] [.int q175.1, .int q171.1] (S0, q175.2) (some (.int r)) (S0, m')
        refine am_AW.brP ok_L_law rfl rfl am_c_eq (fun c176 => ?_) (fun c176 => ?_)
        · rw [if_pos c176] at h
          exact am_AW.weak (f_L_law_b1249_ok hd (ih) x3  h) (by simp only [am_le, and_self])
        · rw [if_neg c176] at h
          refine am_AW.run am_base_ok ok_L_law (Nat.le_add_left 1 d) 1 (pc1 := 633) (ls1 := [some (.ref (am_rB + 1)), some (.ref 0), some (.ref 63), some (.int x3)]) (st1 := [.int (0 : Int32)]) (σ1 := (S0, q175.2)) rfl ?_
          obtain ⟨rfl, rfl⟩ := Prod.mk.inj (Option.some.inj h)
          exact am_AW.ret ok_L_law rfl rfl rfl (by decide)
      rw [if_neg c167] at h
      by_cases c177 : (((ro 1).2 x3.toNatClampNeg) &&& (63 : Int32)) = (16 : Int32)
      · rw [if_pos c177] at h
        refine am_AW.sw ok_L_law rfl (t := 634) (by rw [c177]; decide +kernel) ?_
        refine am_AW.run am_base_ok ok_L_law (Nat.le_add_left 1 d) 5 (pc1 := 639) (ls1 := [some (.ref (am_rB + 1)), some (.ref 0), some (.ref 63), some (.int x3)]) (st1 := [.int (x3 + (1 : Int32)), .ref (am_rB + 1), .ref 0]) (σ1 := (S0, m)) rfl ?_
        by_cases g178 : am_in (x3 + (1 : Int32)) (ro 1).1 = true
        rotate_left
        · rw [if_neg g178] at h
          cases h
        rw [if_pos g178] at h
        refine am_AW.rold ok_L_law (Nat.le_add_left 1 d) (j := 1) (by decide) rfl g178 ?_
        refine am_AW.run am_base_ok ok_L_law (Nat.le_add_left 1 d) 4 (pc1 := 644) (ls1 := [some (.ref (am_rB + 1)), some (.ref 0), some (.ref 63), some (.int x3)]) (st1 := [.int (x3 + (2 : Int32)), .ref (am_rB + 1), .int ((ro 1).2 (x3 + (1 : Int32)).toNatClampNeg), .ref 0]) (σ1 := (S0, m)) rfl ?_
        by_cases g179 : am_in (x3 + (2 : Int32)) (ro 1).1 = true
        rotate_left
        · rw [if_neg g179] at h
          cases h
        rw [if_pos g179] at h
        refine am_AW.rold ok_L_law (Nat.le_add_left 1 d) (j := 1) (by decide) rfl g179 ?_
        obtain ⟨q182, hq182, h⟩ := Option.bind_eq_some_iff.mp h
        refine am_AW.callV ok_L_law am_nw_ok (As := [.int ((ro 1).2 (x3 + (1 : Int32)).toNatClampNeg), .int ((ro 1).2 (x3 + (2 : Int32)).toNatClampNeg)]) (rest := []) rfl rfl rfl oR_C_corner lk_L_82 iM_C_corner sE_C_corner (qc := kq9) rfl rfl rfl rfl (Nat.le_of_ble_eq_true rfl) (f_C_corner_ok (d := d) (by omega) ((ro 1).2 (x3 + (1 : Int32)).toNatClampNeg) ((ro 1).2 (x3 + (2 : Int32)).toNatClampNeg) hq182) ?_
        change am_AW am_nw ro (d + 1) mr_L_law 648 [some (.ref (am_rB + 1)), some (.ref 0), some (.ref 63), some (.int x3)] [.int q182.1] (S0, q182.2) (some (.int r)) (S0, m')
        refine am_AW.run am_base_ok ok_L_law (Nat.le_add_left 1 d) 5 (pc1 := 653) (ls1 := [some (.ref (am_rB + 1)), some (.ref 0), some (.ref 63), some (.int x3)]) (st1 := [.int (x3 + (1 : Int32)), .ref (am_rB + 1), .ref 63, .int q182.1]) (σ1 := (S0, q182.2)) rfl ?_
        by_cases g183 : am_in (x3 + (1 : Int32)) (ro 1).1 = true
        rotate_left
        · rw [if_neg g183] at h
          cases h
        rw [if_pos g183] at h
        refine am_AW.rold ok_L_law (Nat.le_add_left 1 d) (j := 1) (by decide) rfl g183 ?_
        refine am_AW.run am_base_ok ok_L_law (Nat.le_add_left 1 d) 4 (pc1 := 658) (ls1 := [some (.ref (am_rB + 1)), some (.ref 0), some (.ref 63), some (.int x3)]) (st1 := [.int (x3 + (2 : Int32)), .ref (am_rB + 1), .int ((ro 1).2 (x3 + (1 : Int32)).toNatClampNeg), .ref 63, .int q182.1]) (σ1 := (S0, q182.2)) rfl ?_
        by_cases g184 : am_in (x3 + (2 : Int32)) (ro 1).1 = true
        rotate_left
        · rw [if_neg g184] at h
          cases h
        rw [if_pos g184] at h
        refine am_AW.rold ok_L_law (Nat.le_add_left 1 d) (j := 1) (by decide) rfl g184 ?_
        obtain ⟨q187, hq187, h⟩ := Option.bind_eq_some_iff.mp h
        refine am_AW.callV ok_L_law am_nw_ok (As := [.int ((ro 1).2 (x3 + (1 : Int32)).toNatClampNeg), .int ((ro 1).2 (x3 + (2 : Int32)).toNatClampNeg)]) (rest := [.int q182.1]) rfl rfl rfl oR_M_corner lk_L_85 iM_M_corner sE_M_corner (qc := kq10) rfl rfl rfl rfl (Nat.le_of_ble_eq_true rfl) (f_M_corner_ok (d := d) (by omega) ((ro 1).2 (x3 + (1 : Int32)).toNatClampNeg) ((ro 1).2 (x3 + (2 : Int32)).toNatClampNeg) hq187) ?_
        change am_AW am_nw ro (d + 1) mr_L_law 662 [some (.ref (am_rB + 1)), some (.ref 0), some (.ref 63), some (.int x3)] [.int q187.1, .int q182.1] (S0, q187.2) (some (.int r)) (S0, m')
        refine am_AW.brP ok_L_law rfl rfl am_c_eq (fun c188 => ?_) (fun c188 => ?_)
        · rw [if_pos c188] at h
          exact am_AW.weak (f_L_law_b1249_ok hd (ih) x3  h) (by simp only [am_le, and_self])
        · rw [if_neg c188] at h
          refine am_AW.run am_base_ok ok_L_law (Nat.le_add_left 1 d) 1 (pc1 := 666) (ls1 := [some (.ref (am_rB + 1)), some (.ref 0), some (.ref 63), some (.int x3)]) (st1 := [.int (0 : Int32)]) (σ1 := (S0, q187.2)) rfl ?_
          obtain ⟨rfl, rfl⟩ := Prod.mk.inj (Option.some.inj h)
          exact am_AW.ret ok_L_law rfl rfl rfl (by decide)
      rw [if_neg c177] at h
      by_cases c189 : (((ro 1).2 x3.toNatClampNeg) &&& (63 : Int32)) = (17 : Int32)
      · rw [if_pos c189] at h
        refine am_AW.sw ok_L_law rfl (t := 667) (by rw [c189]; decide +kernel) ?_
        refine am_AW.run am_base_ok ok_L_law (Nat.le_add_left 1 d) 5 (pc1 := 672) (ls1 := [some (.ref (am_rB + 1)), some (.ref 0), some (.ref 63), some (.int x3)]) (st1 := [.int (x3 + (1 : Int32)), .ref (am_rB + 1), .ref 0]) (σ1 := (S0, m)) rfl ?_
        by_cases g190 : am_in (x3 + (1 : Int32)) (ro 1).1 = true
        rotate_left
        · rw [if_neg g190] at h
          cases h
        rw [if_pos g190] at h
        refine am_AW.rold ok_L_law (Nat.le_add_left 1 d) (j := 1) (by decide) rfl g190 ?_
        refine am_AW.run am_base_ok ok_L_law (Nat.le_add_left 1 d) 4 (pc1 := 677) (ls1 := [some (.ref (am_rB + 1)), some (.ref 0), some (.ref 63), some (.int x3)]) (st1 := [.int (x3 + (2 : Int32)), .ref (am_rB + 1), .int ((ro 1).2 (x3 + (1 : Int32)).toNatClampNeg), .ref 0]) (σ1 := (S0, m)) rfl ?_
        by_cases g191 : am_in (x3 + (2 : Int32)) (ro 1).1 = true
        rotate_left
        · rw [if_neg g191] at h
          cases h
        rw [if_pos g191] at h
        refine am_AW.rold ok_L_law (Nat.le_add_left 1 d) (j := 1) (by decide) rfl g191 ?_
        obtain ⟨q194, hq194, h⟩ := Option.bind_eq_some_iff.mp h
        refine am_AW.callV ok_L_law am_nw_ok (As := [.int ((ro 1).2 (x3 + (1 : Int32)).toNatClampNeg), .int ((ro 1).2 (x3 + (2 : Int32)).toNatClampNeg)]) (rest := []) rfl rfl rfl oR_C_cutOf lk_L_86 iM_C_cutOf sE_C_cutOf (qc := kq9) rfl rfl rfl rfl (Nat.le_of_ble_eq_true rfl) (f_C_cutOf_ok (d := d) (by omega) ((ro 1).2 (x3 + (1 : Int32)).toNatClampNeg) ((ro 1).2 (x3 + (2 : Int32)).toNatClampNeg) hq194) ?_
        change am_AW am_nw ro (d + 1) mr_L_law 681 [some (.ref (am_rB + 1)), some (.ref 0), some (.ref 63), some (.int x3)] [.int q194.1] (S0, q194.2) (some (.int r)) (S0, m')
        refine am_AW.run am_base_ok ok_L_law (Nat.le_add_left 1 d) 5 (pc1 := 686) (ls1 := [some (.ref (am_rB + 1)), some (.ref 0), some (.ref 63), some (.int x3)]) (st1 := [.int (x3 + (1 : Int32)), .ref (am_rB + 1), .ref 63, .int q194.1]) (σ1 := (S0, q194.2)) rfl ?_
        by_cases g195 : am_in (x3 + (1 : Int32)) (ro 1).1 = true
        rotate_left
        · rw [if_neg g195] at h
          cases h
        rw [if_pos g195] at h
        refine am_AW.rold ok_L_law (Nat.le_add_left 1 d) (j := 1) (by decide) rfl g195 ?_
        refine am_AW.run am_base_ok ok_L_law (Nat.le_add_left 1 d) 4 (pc1 := 691) (ls1 := [some (.ref (am_rB + 1)), some (.ref 0), some (.ref 63), some (.int x3)]) (st1 := [.int (x3 + (2 : Int32)), .ref (am_rB + 1), .int ((ro 1).2 (x3 + (1 : Int32)).toNatClampNeg), .ref 63, .int q194.1]) (σ1 := (S0, q194.2)) rfl ?_
        by_cases g196 : am_in (x3 + (2 : Int32)) (ro 1).1 = true
        rotate_left
        · rw [if_neg g196] at h
          cases h
        rw [if_pos g196] at h
        refine am_AW.rold ok_L_law (Nat.le_add_left 1 d) (j := 1) (by decide) rfl g196 ?_
        obtain ⟨q199, hq199, h⟩ := Option.bind_eq_some_iff.mp h
        refine am_AW.callV ok_L_law am_nw_ok (As := [.int ((ro 1).2 (x3 + (1 : Int32)).toNatClampNeg), .int ((ro 1).2 (x3 + (2 : Int32)).toNatClampNeg)]) (rest := [.int q194.1]) rfl rfl rfl oR_M_cutOf lk_L_89 iM_M_cutOf sE_M_cutOf (qc := kq10) rfl rfl rfl rfl (Nat.le_of_ble_eq_true rfl) (f_M_cutOf_ok (d := d) (by omega) ((ro 1).2 (x3 + (1 : Int32)).toNatClampNeg) ((ro 1).2 (x3 + (2 : Int32)).toNatClampNeg) hq199) ?_
        change am_AW am_nw ro (d + 1) mr_L_law 695 [some (.ref (am_rB + 1)), some (.ref 0), some (.ref 63), some (.int x3)] [.int q199.1, .int q194.1] (S0, q199.2) (some (.int r)) (S0, m')
        refine am_AW.brP ok_L_law rfl rfl am_c_eq (fun c200 => ?_) (fun c200 => ?_)
        · rw [if_pos c200] at h
          exact am_AW.weak (f_L_law_b1249_ok hd (ih) x3  h) (by simp only [am_le, and_self])
        · rw [if_neg c200] at h
          refine am_AW.run am_base_ok ok_L_law (Nat.le_add_left 1 d) 1 (pc1 := 699) (ls1 := [some (.ref (am_rB + 1)), some (.ref 0), some (.ref 63), some (.int x3)]) (st1 := [.int (0 : Int32)]) (σ1 := (S0, q199.2)) rfl ?_
          obtain ⟨rfl, rfl⟩ := Prod.mk.inj (Option.some.inj h)
          exact am_AW.ret ok_L_law rfl rfl rfl (by decide)
      rw [if_neg c189] at h
      by_cases c201 : (((ro 1).2 x3.toNatClampNeg) &&& (63 : Int32)) = (18 : Int32)
      · rw [if_pos c201] at h
        refine am_AW.sw ok_L_law rfl (t := 700) (by rw [c201]; decide +kernel) ?_
        refine am_AW.run am_base_ok ok_L_law (Nat.le_add_left 1 d) 5 (pc1 := 705) (ls1 := [some (.ref (am_rB + 1)), some (.ref 0), some (.ref 63), some (.int x3)]) (st1 := [.int (x3 + (1 : Int32)), .ref (am_rB + 1), .ref 0]) (σ1 := (S0, m)) rfl ?_
        by_cases g202 : am_in (x3 + (1 : Int32)) (ro 1).1 = true
        rotate_left
        · rw [if_neg g202] at h
          cases h
        rw [if_pos g202] at h
        refine am_AW.rold ok_L_law (Nat.le_add_left 1 d) (j := 1) (by decide) rfl g202 ?_
        refine am_AW.run am_base_ok ok_L_law (Nat.le_add_left 1 d) 4 (pc1 := 710) (ls1 := [some (.ref (am_rB + 1)), some (.ref 0), some (.ref 63), some (.int x3)]) (st1 := [.int (x3 + (2 : Int32)), .ref (am_rB + 1), .int ((ro 1).2 (x3 + (1 : Int32)).toNatClampNeg), .ref 0]) (σ1 := (S0, m)) rfl ?_
        by_cases g203 : am_in (x3 + (2 : Int32)) (ro 1).1 = true
        rotate_left
        · rw [if_neg g203] at h
          cases h
        rw [if_pos g203] at h
        refine am_AW.rold ok_L_law (Nat.le_add_left 1 d) (j := 1) (by decide) rfl g203 ?_
        obtain ⟨q206, hq206, h⟩ := Option.bind_eq_some_iff.mp h
        refine am_AW.callV ok_L_law am_nw_ok (As := [.int ((ro 1).2 (x3 + (1 : Int32)).toNatClampNeg), .int ((ro 1).2 (x3 + (2 : Int32)).toNatClampNeg)]) (rest := []) rfl rfl rfl oR_C_frieze lk_L_90 iM_C_frieze sE_C_frieze (qc := kq9) rfl rfl rfl rfl (Nat.le_of_ble_eq_true rfl) (f_C_frieze_ok (d := d) (by omega) ((ro 1).2 (x3 + (1 : Int32)).toNatClampNeg) ((ro 1).2 (x3 + (2 : Int32)).toNatClampNeg) hq206) ?_
        change am_AW am_nw ro (d + 1) mr_L_law 714 [some (.ref (am_rB + 1)), some (.ref 0), some (.ref 63), some (.int x3)] [.long q206.1] (S0, q206.2) (some (.int r)) (S0, m')
        refine am_AW.run am_base_ok ok_L_law (Nat.le_add_left 1 d) 5 (pc1 := 719) (ls1 := [some (.ref (am_rB + 1)), some (.ref 0), some (.ref 63), some (.int x3)]) (st1 := [.int (x3 + (1 : Int32)), .ref (am_rB + 1), .ref 63, .long q206.1]) (σ1 := (S0, q206.2)) rfl ?_
        by_cases g207 : am_in (x3 + (1 : Int32)) (ro 1).1 = true
        rotate_left
        · rw [if_neg g207] at h
          cases h
        rw [if_pos g207] at h
        refine am_AW.rold ok_L_law (Nat.le_add_left 1 d) (j := 1) (by decide) rfl g207 ?_
        refine am_AW.run am_base_ok ok_L_law (Nat.le_add_left 1 d) 4 (pc1 := 724) (ls1 := [some (.ref (am_rB + 1)), some (.ref 0), some (.ref 63), some (.int x3)]) (st1 := [.int (x3 + (2 : Int32)), .ref (am_rB + 1), .int ((ro 1).2 (x3 + (1 : Int32)).toNatClampNeg), .ref 63, .long q206.1]) (σ1 := (S0, q206.2)) rfl ?_
        by_cases g208 : am_in (x3 + (2 : Int32)) (ro 1).1 = true
        rotate_left
        · rw [if_neg g208] at h
          cases h
        rw [if_pos g208] at h
        refine am_AW.rold ok_L_law (Nat.le_add_left 1 d) (j := 1) (by decide) rfl g208 ?_
        obtain ⟨q211, hq211, h⟩ := Option.bind_eq_some_iff.mp h
        refine am_AW.callV ok_L_law am_nw_ok (As := [.int ((ro 1).2 (x3 + (1 : Int32)).toNatClampNeg), .int ((ro 1).2 (x3 + (2 : Int32)).toNatClampNeg)]) (rest := [.long q206.1]) rfl rfl rfl oR_M_frieze lk_L_94 iM_M_frieze sE_M_frieze (qc := kq10) rfl rfl rfl rfl (Nat.le_of_ble_eq_true rfl) (f_M_frieze_ok (d := d) (by omega) ((ro 1).2 (x3 + (1 : Int32)).toNatClampNeg) ((ro 1).2 (x3 + (2 : Int32)).toNatClampNeg) hq211) ?_
        change am_AW am_nw ro (d + 1) mr_L_law 728 [some (.ref (am_rB + 1)), some (.ref 0), some (.ref 63), some (.int x3)] [.long q211.1, .long q206.1] (S0, q211.2) (some (.int r)) (S0, m')
        refine am_AW.run am_base_ok ok_L_law (Nat.le_add_left 1 d) 1 (pc1 := 729) (ls1 := [some (.ref (am_rB + 1)), some (.ref 0), some (.ref 63), some (.int x3)]) (st1 := [.int (lg_cmp q206.1 q211.1)]) (σ1 := (S0, q211.2)) rfl ?_
        refine am_AW.brP ok_L_law rfl rfl am_c_eq (fun c212 => ?_) (fun c212 => ?_)
        · rw [if_pos c212] at h
          exact am_AW.weak (f_L_law_b1249_ok hd (ih) x3  h) (by simp only [am_le, and_self])
        · rw [if_neg c212] at h
          refine am_AW.run am_base_ok ok_L_law (Nat.le_add_left 1 d) 1 (pc1 := 733) (ls1 := [some (.ref (am_rB + 1)), some (.ref 0), some (.ref 63), some (.int x3)]) (st1 := [.int (0 : Int32)]) (σ1 := (S0, q211.2)) rfl ?_
          obtain ⟨rfl, rfl⟩ := Prod.mk.inj (Option.some.inj h)
          exact am_AW.ret ok_L_law rfl rfl rfl (by decide)
      rw [if_neg c201] at h
      by_cases c213 : (((ro 1).2 x3.toNatClampNeg) &&& (63 : Int32)) = (19 : Int32)
      · rw [if_pos c213] at h
        refine am_AW.sw ok_L_law rfl (t := 734) (by rw [c213]; decide +kernel) ?_
        refine am_AW.run am_base_ok ok_L_law (Nat.le_add_left 1 d) 5 (pc1 := 739) (ls1 := [some (.ref (am_rB + 1)), some (.ref 0), some (.ref 63), some (.int x3)]) (st1 := [.int (x3 + (1 : Int32)), .ref (am_rB + 1), .ref 0]) (σ1 := (S0, m)) rfl ?_
        by_cases g214 : am_in (x3 + (1 : Int32)) (ro 1).1 = true
        rotate_left
        · rw [if_neg g214] at h
          cases h
        rw [if_pos g214] at h
        refine am_AW.rold ok_L_law (Nat.le_add_left 1 d) (j := 1) (by decide) rfl g214 ?_
        obtain ⟨q217, hq217, h⟩ := Option.bind_eq_some_iff.mp h
        refine am_AW.callV ok_L_law am_nw_ok (As := [.int ((ro 1).2 (x3 + (1 : Int32)).toNatClampNeg)]) (rest := []) rfl rfl rfl oR_C_whole lk_L_95 iM_C_whole sE_C_whole (qc := kq9) rfl rfl rfl rfl (Nat.le_of_ble_eq_true rfl) (f_C_whole_ok (d := d) (by omega) ((ro 1).2 (x3 + (1 : Int32)).toNatClampNeg) hq217) ?_
        change am_AW am_nw ro (d + 1) mr_L_law 743 [some (.ref (am_rB + 1)), some (.ref 0), some (.ref 63), some (.int x3)] [.int q217.1] (S0, q217.2) (some (.int r)) (S0, m')
        refine am_AW.run am_base_ok ok_L_law (Nat.le_add_left 1 d) 5 (pc1 := 748) (ls1 := [some (.ref (am_rB + 1)), some (.ref 0), some (.ref 63), some (.int x3)]) (st1 := [.int (x3 + (1 : Int32)), .ref (am_rB + 1), .ref 63, .int q217.1]) (σ1 := (S0, q217.2)) rfl ?_
        by_cases g218 : am_in (x3 + (1 : Int32)) (ro 1).1 = true
        rotate_left
        · rw [if_neg g218] at h
          cases h
        rw [if_pos g218] at h
        refine am_AW.rold ok_L_law (Nat.le_add_left 1 d) (j := 1) (by decide) rfl g218 ?_
        obtain ⟨q221, hq221, h⟩ := Option.bind_eq_some_iff.mp h
        refine am_AW.callV ok_L_law am_nw_ok (As := [.int ((ro 1).2 (x3 + (1 : Int32)).toNatClampNeg)]) (rest := [.int q217.1]) rfl rfl rfl oR_M_whole lk_L_98 iM_M_whole sE_M_whole (qc := kq10) rfl rfl rfl rfl (Nat.le_of_ble_eq_true rfl) (f_M_whole_ok (d := d) (by omega) ((ro 1).2 (x3 + (1 : Int32)).toNatClampNeg) hq221) ?_
        change am_AW am_nw ro (d + 1) mr_L_law 752 [some (.ref (am_rB + 1)), some (.ref 0), some (.ref 63), some (.int x3)] [.int q221.1, .int q217.1] (S0, q221.2) (some (.int r)) (S0, m')
        refine am_AW.brP ok_L_law rfl rfl am_c_eq (fun c222 => ?_) (fun c222 => ?_)
        · rw [if_pos c222] at h
          exact am_AW.weak (f_L_law_b1249_ok hd (ih) x3  h) (by simp only [am_le, and_self])
        · rw [if_neg c222] at h
          refine am_AW.run am_base_ok ok_L_law (Nat.le_add_left 1 d) 1 (pc1 := 756) (ls1 := [some (.ref (am_rB + 1)), some (.ref 0), some (.ref 63), some (.int x3)]) (st1 := [.int (0 : Int32)]) (σ1 := (S0, q221.2)) rfl ?_
          obtain ⟨rfl, rfl⟩ := Prod.mk.inj (Option.some.inj h)
          exact am_AW.ret ok_L_law rfl rfl rfl (by decide)
      rw [if_neg c213] at h
      by_cases c223 : (((ro 1).2 x3.toNatClampNeg) &&& (63 : Int32)) = (20 : Int32)
      · rw [if_pos c223] at h
        refine am_AW.sw ok_L_law rfl (t := 757) (by rw [c223]; decide +kernel) ?_
        refine am_AW.run am_base_ok ok_L_law (Nat.le_add_left 1 d) 5 (pc1 := 762) (ls1 := [some (.ref (am_rB + 1)), some (.ref 0), some (.ref 63), some (.int x3)]) (st1 := [.int (x3 + (1 : Int32)), .ref (am_rB + 1), .ref 0]) (σ1 := (S0, m)) rfl ?_
        by_cases g224 : am_in (x3 + (1 : Int32)) (ro 1).1 = true
        rotate_left
        · rw [if_neg g224] at h
          cases h
        rw [if_pos g224] at h
        refine am_AW.rold ok_L_law (Nat.le_add_left 1 d) (j := 1) (by decide) rfl g224 ?_
        obtain ⟨q227, hq227, h⟩ := Option.bind_eq_some_iff.mp h
        refine am_AW.callV ok_L_law am_nw_ok (As := [.int ((ro 1).2 (x3 + (1 : Int32)).toNatClampNeg)]) (rest := []) rfl rfl rfl oR_C_piece lk_L_99 iM_C_piece sE_C_piece (qc := kq9) rfl rfl rfl rfl (Nat.le_of_ble_eq_true rfl) (f_C_piece_ok (d := d) (by omega) ((ro 1).2 (x3 + (1 : Int32)).toNatClampNeg) hq227) ?_
        change am_AW am_nw ro (d + 1) mr_L_law 766 [some (.ref (am_rB + 1)), some (.ref 0), some (.ref 63), some (.int x3)] [.int q227.1] (S0, q227.2) (some (.int r)) (S0, m')
        refine am_AW.run am_base_ok ok_L_law (Nat.le_add_left 1 d) 5 (pc1 := 771) (ls1 := [some (.ref (am_rB + 1)), some (.ref 0), some (.ref 63), some (.int x3)]) (st1 := [.int (x3 + (1 : Int32)), .ref (am_rB + 1), .ref 63, .int q227.1]) (σ1 := (S0, q227.2)) rfl ?_
        by_cases g228 : am_in (x3 + (1 : Int32)) (ro 1).1 = true
        rotate_left
        · rw [if_neg g228] at h
          cases h
        rw [if_pos g228] at h
        refine am_AW.rold ok_L_law (Nat.le_add_left 1 d) (j := 1) (by decide) rfl g228 ?_
        obtain ⟨q231, hq231, h⟩ := Option.bind_eq_some_iff.mp h
        refine am_AW.callV ok_L_law am_nw_ok (As := [.int ((ro 1).2 (x3 + (1 : Int32)).toNatClampNeg)]) (rest := [.int q227.1]) rfl rfl rfl oR_M_piece lk_L_102 iM_M_piece sE_M_piece (qc := kq10) rfl rfl rfl rfl (Nat.le_of_ble_eq_true rfl) (f_M_piece_ok (d := d) (by omega) ((ro 1).2 (x3 + (1 : Int32)).toNatClampNeg) hq231) ?_
        change am_AW am_nw ro (d + 1) mr_L_law 775 [some (.ref (am_rB + 1)), some (.ref 0), some (.ref 63), some (.int x3)] [.int q231.1, .int q227.1] (S0, q231.2) (some (.int r)) (S0, m')
        refine am_AW.brP ok_L_law rfl rfl am_c_eq (fun c232 => ?_) (fun c232 => ?_)
        · rw [if_pos c232] at h
          exact am_AW.weak (f_L_law_b1249_ok hd (ih) x3  h) (by simp only [am_le, and_self])
        · rw [if_neg c232] at h
          refine am_AW.run am_base_ok ok_L_law (Nat.le_add_left 1 d) 1 (pc1 := 779) (ls1 := [some (.ref (am_rB + 1)), some (.ref 0), some (.ref 63), some (.int x3)]) (st1 := [.int (0 : Int32)]) (σ1 := (S0, q231.2)) rfl ?_
          obtain ⟨rfl, rfl⟩ := Prod.mk.inj (Option.some.inj h)
          exact am_AW.ret ok_L_law rfl rfl rfl (by decide)
      rw [if_neg c223] at h
      by_cases c233 : (((ro 1).2 x3.toNatClampNeg) &&& (63 : Int32)) = (21 : Int32)
      · rw [if_pos c233] at h
        refine am_AW.sw ok_L_law rfl (t := 780) (by rw [c233]; decide +kernel) ?_
        refine am_AW.run am_base_ok ok_L_law (Nat.le_add_left 1 d) 5 (pc1 := 785) (ls1 := [some (.ref (am_rB + 1)), some (.ref 0), some (.ref 63), some (.int x3)]) (st1 := [.int (x3 + (1 : Int32)), .ref (am_rB + 1), .ref 0]) (σ1 := (S0, m)) rfl ?_
        by_cases g234 : am_in (x3 + (1 : Int32)) (ro 1).1 = true
        rotate_left
        · rw [if_neg g234] at h
          cases h
        rw [if_pos g234] at h
        refine am_AW.rold ok_L_law (Nat.le_add_left 1 d) (j := 1) (by decide) rfl g234 ?_
        refine am_AW.run am_base_ok ok_L_law (Nat.le_add_left 1 d) 4 (pc1 := 790) (ls1 := [some (.ref (am_rB + 1)), some (.ref 0), some (.ref 63), some (.int x3)]) (st1 := [.int (x3 + (2 : Int32)), .ref (am_rB + 1), .int ((ro 1).2 (x3 + (1 : Int32)).toNatClampNeg), .ref 0]) (σ1 := (S0, m)) rfl ?_
        by_cases g235 : am_in (x3 + (2 : Int32)) (ro 1).1 = true
        rotate_left
        · rw [if_neg g235] at h
          cases h
        rw [if_pos g235] at h
        refine am_AW.rold ok_L_law (Nat.le_add_left 1 d) (j := 1) (by decide) rfl g235 ?_
        obtain ⟨q238, hq238, h⟩ := Option.bind_eq_some_iff.mp h
        refine am_AW.callV ok_L_law am_nw_ok (As := [.int ((ro 1).2 (x3 + (1 : Int32)).toNatClampNeg), .int ((ro 1).2 (x3 + (2 : Int32)).toNatClampNeg)]) (rest := []) rfl rfl rfl oR_C_back lk_L_103 iM_C_back sE_C_back (qc := kq9) rfl rfl rfl rfl (Nat.le_of_ble_eq_true rfl) (f_C_back_ok (d := d) (by omega) ((ro 1).2 (x3 + (1 : Int32)).toNatClampNeg) ((ro 1).2 (x3 + (2 : Int32)).toNatClampNeg) hq238) ?_
        change am_AW am_nw ro (d + 1) mr_L_law 794 [some (.ref (am_rB + 1)), some (.ref 0), some (.ref 63), some (.int x3)] [.int q238.1] (S0, q238.2) (some (.int r)) (S0, m')
        refine am_AW.run am_base_ok ok_L_law (Nat.le_add_left 1 d) 5 (pc1 := 799) (ls1 := [some (.ref (am_rB + 1)), some (.ref 0), some (.ref 63), some (.int x3)]) (st1 := [.int (x3 + (1 : Int32)), .ref (am_rB + 1), .ref 63, .int q238.1]) (σ1 := (S0, q238.2)) rfl ?_
        by_cases g239 : am_in (x3 + (1 : Int32)) (ro 1).1 = true
        rotate_left
        · rw [if_neg g239] at h
          cases h
        rw [if_pos g239] at h
        refine am_AW.rold ok_L_law (Nat.le_add_left 1 d) (j := 1) (by decide) rfl g239 ?_
        refine am_AW.run am_base_ok ok_L_law (Nat.le_add_left 1 d) 4 (pc1 := 804) (ls1 := [some (.ref (am_rB + 1)), some (.ref 0), some (.ref 63), some (.int x3)]) (st1 := [.int (x3 + (2 : Int32)), .ref (am_rB + 1), .int ((ro 1).2 (x3 + (1 : Int32)).toNatClampNeg), .ref 63, .int q238.1]) (σ1 := (S0, q238.2)) rfl ?_
        by_cases g240 : am_in (x3 + (2 : Int32)) (ro 1).1 = true
        rotate_left
        · rw [if_neg g240] at h
          cases h
        rw [if_pos g240] at h
        refine am_AW.rold ok_L_law (Nat.le_add_left 1 d) (j := 1) (by decide) rfl g240 ?_
        obtain ⟨q243, hq243, h⟩ := Option.bind_eq_some_iff.mp h
        refine am_AW.callV ok_L_law am_nw_ok (As := [.int ((ro 1).2 (x3 + (1 : Int32)).toNatClampNeg), .int ((ro 1).2 (x3 + (2 : Int32)).toNatClampNeg)]) (rest := [.int q238.1]) rfl rfl rfl oR_M_back lk_L_106 iM_M_back sE_M_back (qc := kq10) rfl rfl rfl rfl (Nat.le_of_ble_eq_true rfl) (f_M_back_ok (d := d) (by omega) ((ro 1).2 (x3 + (1 : Int32)).toNatClampNeg) ((ro 1).2 (x3 + (2 : Int32)).toNatClampNeg) hq243) ?_
        change am_AW am_nw ro (d + 1) mr_L_law 808 [some (.ref (am_rB + 1)), some (.ref 0), some (.ref 63), some (.int x3)] [.int q243.1, .int q238.1] (S0, q243.2) (some (.int r)) (S0, m')
        refine am_AW.brP ok_L_law rfl rfl am_c_eq (fun c244 => ?_) (fun c244 => ?_)
        · rw [if_pos c244] at h
          exact am_AW.weak (f_L_law_b1249_ok hd (ih) x3  h) (by simp only [am_le, and_self])
        · rw [if_neg c244] at h
          refine am_AW.run am_base_ok ok_L_law (Nat.le_add_left 1 d) 1 (pc1 := 812) (ls1 := [some (.ref (am_rB + 1)), some (.ref 0), some (.ref 63), some (.int x3)]) (st1 := [.int (0 : Int32)]) (σ1 := (S0, q243.2)) rfl ?_
          obtain ⟨rfl, rfl⟩ := Prod.mk.inj (Option.some.inj h)
          exact am_AW.ret ok_L_law rfl rfl rfl (by decide)
      rw [if_neg c233] at h
      by_cases c245 : (((ro 1).2 x3.toNatClampNeg) &&& (63 : Int32)) = (22 : Int32)
      · rw [if_pos c245] at h
        refine am_AW.sw ok_L_law rfl (t := 813) (by rw [c245]; decide +kernel) ?_
        refine am_AW.run am_base_ok ok_L_law (Nat.le_add_left 1 d) 1 (pc1 := 814) (ls1 := [some (.ref (am_rB + 1)), some (.ref 0), some (.ref 63), some (.int x3)]) (st1 := [.ref 0]) (σ1 := (S0, m)) rfl ?_
        obtain ⟨q248, hq248, h⟩ := Option.bind_eq_some_iff.mp h
        refine am_AW.callV ok_L_law am_nw_ok (As := []) (rest := []) rfl rfl rfl oR_C_ways lk_L_107 iM_C_ways sE_C_ways (qc := kq9) rfl rfl rfl rfl (Nat.le_of_ble_eq_true rfl) (f_C_ways_ok (d := d) (by omega)  hq248) ?_
        change am_AW am_nw ro (d + 1) mr_L_law 817 [some (.ref (am_rB + 1)), some (.ref 0), some (.ref 63), some (.int x3)] [.int q248.1] (S0, q248.2) (some (.int r)) (S0, m')
        refine am_AW.run am_base_ok ok_L_law (Nat.le_add_left 1 d) 1 (pc1 := 818) (ls1 := [some (.ref (am_rB + 1)), some (.ref 0), some (.ref 63), some (.int x3)]) (st1 := [.ref 63, .int q248.1]) (σ1 := (S0, q248.2)) rfl ?_
        obtain ⟨q251, hq251, h⟩ := Option.bind_eq_some_iff.mp h
        refine am_AW.callV ok_L_law am_nw_ok (As := []) (rest := [.int q248.1]) rfl rfl rfl oR_M_ways lk_L_110 iM_M_ways sE_M_ways (qc := kq10) rfl rfl rfl rfl (Nat.le_of_ble_eq_true rfl) (f_M_ways_ok (d := d) (by omega)  hq251) ?_
        change am_AW am_nw ro (d + 1) mr_L_law 821 [some (.ref (am_rB + 1)), some (.ref 0), some (.ref 63), some (.int x3)] [.int q251.1, .int q248.1] (S0, q251.2) (some (.int r)) (S0, m')
        refine am_AW.brP ok_L_law rfl rfl am_c_eq (fun c252 => ?_) (fun c252 => ?_)
        · rw [if_pos c252] at h
          exact am_AW.weak (f_L_law_b1249_ok hd (ih) x3  h) (by simp only [am_le, and_self])
        · rw [if_neg c252] at h
          refine am_AW.run am_base_ok ok_L_law (Nat.le_add_left 1 d) 1 (pc1 := 825) (ls1 := [some (.ref (am_rB + 1)), some (.ref 0), some (.ref 63), some (.int x3)]) (st1 := [.int (0 : Int32)]) (σ1 := (S0, q251.2)) rfl ?_
          obtain ⟨rfl, rfl⟩ := Prod.mk.inj (Option.some.inj h)
          exact am_AW.ret ok_L_law rfl rfl rfl (by decide)
      rw [if_neg c245] at h
      by_cases c253 : (((ro 1).2 x3.toNatClampNeg) &&& (63 : Int32)) = (23 : Int32)
      · rw [if_pos c253] at h
        refine am_AW.sw ok_L_law rfl (t := 826) (by rw [c253]; decide +kernel) ?_
        refine am_AW.run am_base_ok ok_L_law (Nat.le_add_left 1 d) 5 (pc1 := 831) (ls1 := [some (.ref (am_rB + 1)), some (.ref 0), some (.ref 63), some (.int x3)]) (st1 := [.int (x3 + (1 : Int32)), .ref (am_rB + 1), .ref 0]) (σ1 := (S0, m)) rfl ?_
        by_cases g254 : am_in (x3 + (1 : Int32)) (ro 1).1 = true
        rotate_left
        · rw [if_neg g254] at h
          cases h
        rw [if_pos g254] at h
        refine am_AW.rold ok_L_law (Nat.le_add_left 1 d) (j := 1) (by decide) rfl g254 ?_
        obtain ⟨q257, hq257, h⟩ := Option.bind_eq_some_iff.mp h
        refine am_AW.callV ok_L_law am_nw_ok (As := [.int ((ro 1).2 (x3 + (1 : Int32)).toNatClampNeg)]) (rest := []) rfl rfl rfl oR_C_likes lk_L_111 iM_C_likes sE_C_likes (qc := kq9) rfl rfl rfl rfl (Nat.le_of_ble_eq_true rfl) (f_C_likes_ok (d := d) (by omega) ((ro 1).2 (x3 + (1 : Int32)).toNatClampNeg) hq257) ?_
        change am_AW am_nw ro (d + 1) mr_L_law 835 [some (.ref (am_rB + 1)), some (.ref 0), some (.ref 63), some (.int x3)] [.int q257.1] (S0, q257.2) (some (.int r)) (S0, m')
        refine am_AW.run am_base_ok ok_L_law (Nat.le_add_left 1 d) 5 (pc1 := 840) (ls1 := [some (.ref (am_rB + 1)), some (.ref 0), some (.ref 63), some (.int x3)]) (st1 := [.int (x3 + (1 : Int32)), .ref (am_rB + 1), .ref 63, .int q257.1]) (σ1 := (S0, q257.2)) rfl ?_
        by_cases g258 : am_in (x3 + (1 : Int32)) (ro 1).1 = true
        rotate_left
        · rw [if_neg g258] at h
          cases h
        rw [if_pos g258] at h
        refine am_AW.rold ok_L_law (Nat.le_add_left 1 d) (j := 1) (by decide) rfl g258 ?_
        obtain ⟨q261, hq261, h⟩ := Option.bind_eq_some_iff.mp h
        refine am_AW.callV ok_L_law am_nw_ok (As := [.int ((ro 1).2 (x3 + (1 : Int32)).toNatClampNeg)]) (rest := [.int q257.1]) rfl rfl rfl oR_M_likes lk_L_114 iM_M_likes sE_M_likes (qc := kq10) rfl rfl rfl rfl (Nat.le_of_ble_eq_true rfl) (f_M_likes_ok (d := d) (by omega) ((ro 1).2 (x3 + (1 : Int32)).toNatClampNeg) hq261) ?_
        change am_AW am_nw ro (d + 1) mr_L_law 844 [some (.ref (am_rB + 1)), some (.ref 0), some (.ref 63), some (.int x3)] [.int q261.1, .int q257.1] (S0, q261.2) (some (.int r)) (S0, m')
        refine am_AW.brP ok_L_law rfl rfl am_c_eq (fun c262 => ?_) (fun c262 => ?_)
        · rw [if_pos c262] at h
          exact am_AW.weak (f_L_law_b1249_ok hd (ih) x3  h) (by simp only [am_le, and_self])
        · rw [if_neg c262] at h
          refine am_AW.run am_base_ok ok_L_law (Nat.le_add_left 1 d) 1 (pc1 := 848) (ls1 := [some (.ref (am_rB + 1)), some (.ref 0), some (.ref 63), some (.int x3)]) (st1 := [.int (0 : Int32)]) (σ1 := (S0, q261.2)) rfl ?_
          obtain ⟨rfl, rfl⟩ := Prod.mk.inj (Option.some.inj h)
          exact am_AW.ret ok_L_law rfl rfl rfl (by decide)
      rw [if_neg c253] at h
      by_cases c263 : (((ro 1).2 x3.toNatClampNeg) &&& (63 : Int32)) = (24 : Int32)
      · rw [if_pos c263] at h
        refine am_AW.sw ok_L_law rfl (t := 849) (by rw [c263]; decide +kernel) ?_
        refine am_AW.run am_base_ok ok_L_law (Nat.le_add_left 1 d) 5 (pc1 := 854) (ls1 := [some (.ref (am_rB + 1)), some (.ref 0), some (.ref 63), some (.int x3)]) (st1 := [.int (x3 + (1 : Int32)), .ref (am_rB + 1), .ref 0]) (σ1 := (S0, m)) rfl ?_
        by_cases g264 : am_in (x3 + (1 : Int32)) (ro 1).1 = true
        rotate_left
        · rw [if_neg g264] at h
          cases h
        rw [if_pos g264] at h
        refine am_AW.rold ok_L_law (Nat.le_add_left 1 d) (j := 1) (by decide) rfl g264 ?_
        obtain ⟨q267, hq267, h⟩ := Option.bind_eq_some_iff.mp h
        refine am_AW.callV ok_L_law am_nw_ok (As := [.int ((ro 1).2 (x3 + (1 : Int32)).toNatClampNeg)]) (rest := []) rfl rfl rfl oR_C_flips lk_L_115 iM_C_flips sE_C_flips (qc := kq9) rfl rfl rfl rfl (Nat.le_of_ble_eq_true rfl) (f_C_flips_ok (d := d) (by omega) ((ro 1).2 (x3 + (1 : Int32)).toNatClampNeg) hq267) ?_
        change am_AW am_nw ro (d + 1) mr_L_law 858 [some (.ref (am_rB + 1)), some (.ref 0), some (.ref 63), some (.int x3)] [.int q267.1] (S0, q267.2) (some (.int r)) (S0, m')
        refine am_AW.run am_base_ok ok_L_law (Nat.le_add_left 1 d) 5 (pc1 := 863) (ls1 := [some (.ref (am_rB + 1)), some (.ref 0), some (.ref 63), some (.int x3)]) (st1 := [.int (x3 + (1 : Int32)), .ref (am_rB + 1), .ref 63, .int q267.1]) (σ1 := (S0, q267.2)) rfl ?_
        by_cases g268 : am_in (x3 + (1 : Int32)) (ro 1).1 = true
        rotate_left
        · rw [if_neg g268] at h
          cases h
        rw [if_pos g268] at h
        refine am_AW.rold ok_L_law (Nat.le_add_left 1 d) (j := 1) (by decide) rfl g268 ?_
        obtain ⟨q271, hq271, h⟩ := Option.bind_eq_some_iff.mp h
        refine am_AW.callV ok_L_law am_nw_ok (As := [.int ((ro 1).2 (x3 + (1 : Int32)).toNatClampNeg)]) (rest := [.int q267.1]) rfl rfl rfl oR_M_flips lk_L_118 iM_M_flips sE_M_flips (qc := kq10) rfl rfl rfl rfl (Nat.le_of_ble_eq_true rfl) (f_M_flips_ok (d := d) (by omega) ((ro 1).2 (x3 + (1 : Int32)).toNatClampNeg) hq271) ?_
        change am_AW am_nw ro (d + 1) mr_L_law 867 [some (.ref (am_rB + 1)), some (.ref 0), some (.ref 63), some (.int x3)] [.int q271.1, .int q267.1] (S0, q271.2) (some (.int r)) (S0, m')
        refine am_AW.brP ok_L_law rfl rfl am_c_eq (fun c272 => ?_) (fun c272 => ?_)
        · rw [if_pos c272] at h
          exact am_AW.weak (f_L_law_b1249_ok hd (ih) x3  h) (by simp only [am_le, and_self])
        · rw [if_neg c272] at h
          refine am_AW.run am_base_ok ok_L_law (Nat.le_add_left 1 d) 1 (pc1 := 871) (ls1 := [some (.ref (am_rB + 1)), some (.ref 0), some (.ref 63), some (.int x3)]) (st1 := [.int (0 : Int32)]) (σ1 := (S0, q271.2)) rfl ?_
          obtain ⟨rfl, rfl⟩ := Prod.mk.inj (Option.some.inj h)
          exact am_AW.ret ok_L_law rfl rfl rfl (by decide)
      rw [if_neg c263] at h
      by_cases c273 : (((ro 1).2 x3.toNatClampNeg) &&& (63 : Int32)) = (25 : Int32)
      · rw [if_pos c273] at h
        refine am_AW.sw ok_L_law rfl (t := 872) (by rw [c273]; decide +kernel) ?_
        refine am_AW.run am_base_ok ok_L_law (Nat.le_add_left 1 d) 5 (pc1 := 877) (ls1 := [some (.ref (am_rB + 1)), some (.ref 0), some (.ref 63), some (.int x3)]) (st1 := [.int (x3 + (1 : Int32)), .ref (am_rB + 1), .ref 0]) (σ1 := (S0, m)) rfl ?_
        by_cases g274 : am_in (x3 + (1 : Int32)) (ro 1).1 = true
        rotate_left
        · rw [if_neg g274] at h
          cases h
        rw [if_pos g274] at h
        refine am_AW.rold ok_L_law (Nat.le_add_left 1 d) (j := 1) (by decide) rfl g274 ?_
        refine am_AW.run am_base_ok ok_L_law (Nat.le_add_left 1 d) 4 (pc1 := 882) (ls1 := [some (.ref (am_rB + 1)), some (.ref 0), some (.ref 63), some (.int x3)]) (st1 := [.int (x3 + (2 : Int32)), .ref (am_rB + 1), .int ((ro 1).2 (x3 + (1 : Int32)).toNatClampNeg), .ref 0]) (σ1 := (S0, m)) rfl ?_
        by_cases g275 : am_in (x3 + (2 : Int32)) (ro 1).1 = true
        rotate_left
        · rw [if_neg g275] at h
          cases h
        rw [if_pos g275] at h
        refine am_AW.rold ok_L_law (Nat.le_add_left 1 d) (j := 1) (by decide) rfl g275 ?_
        obtain ⟨q278, hq278, h⟩ := Option.bind_eq_some_iff.mp h
        refine am_AW.callV ok_L_law am_nw_ok (As := [.int ((ro 1).2 (x3 + (1 : Int32)).toNatClampNeg), .int ((ro 1).2 (x3 + (2 : Int32)).toNatClampNeg)]) (rest := []) rfl rfl rfl oR_C_sets lk_L_119 iM_C_sets sE_C_sets (qc := kq9) rfl rfl rfl rfl (Nat.le_of_ble_eq_true rfl) (f_C_sets_ok (d := d) (by omega) ((ro 1).2 (x3 + (1 : Int32)).toNatClampNeg) ((ro 1).2 (x3 + (2 : Int32)).toNatClampNeg) hq278) ?_
        change am_AW am_nw ro (d + 1) mr_L_law 886 [some (.ref (am_rB + 1)), some (.ref 0), some (.ref 63), some (.int x3)] [.int q278.1] (S0, q278.2) (some (.int r)) (S0, m')
        refine am_AW.run am_base_ok ok_L_law (Nat.le_add_left 1 d) 5 (pc1 := 891) (ls1 := [some (.ref (am_rB + 1)), some (.ref 0), some (.ref 63), some (.int x3)]) (st1 := [.int (x3 + (1 : Int32)), .ref (am_rB + 1), .ref 63, .int q278.1]) (σ1 := (S0, q278.2)) rfl ?_
        by_cases g279 : am_in (x3 + (1 : Int32)) (ro 1).1 = true
        rotate_left
        · rw [if_neg g279] at h
          cases h
        rw [if_pos g279] at h
        refine am_AW.rold ok_L_law (Nat.le_add_left 1 d) (j := 1) (by decide) rfl g279 ?_
        refine am_AW.run am_base_ok ok_L_law (Nat.le_add_left 1 d) 4 (pc1 := 896) (ls1 := [some (.ref (am_rB + 1)), some (.ref 0), some (.ref 63), some (.int x3)]) (st1 := [.int (x3 + (2 : Int32)), .ref (am_rB + 1), .int ((ro 1).2 (x3 + (1 : Int32)).toNatClampNeg), .ref 63, .int q278.1]) (σ1 := (S0, q278.2)) rfl ?_
        by_cases g280 : am_in (x3 + (2 : Int32)) (ro 1).1 = true
        rotate_left
        · rw [if_neg g280] at h
          cases h
        rw [if_pos g280] at h
        refine am_AW.rold ok_L_law (Nat.le_add_left 1 d) (j := 1) (by decide) rfl g280 ?_
        obtain ⟨q283, hq283, h⟩ := Option.bind_eq_some_iff.mp h
        refine am_AW.callV ok_L_law am_nw_ok (As := [.int ((ro 1).2 (x3 + (1 : Int32)).toNatClampNeg), .int ((ro 1).2 (x3 + (2 : Int32)).toNatClampNeg)]) (rest := [.int q278.1]) rfl rfl rfl oR_M_sets lk_L_122 iM_M_sets sE_M_sets (qc := kq10) rfl rfl rfl rfl (Nat.le_of_ble_eq_true rfl) (f_M_sets_ok (d := d) (by omega) ((ro 1).2 (x3 + (1 : Int32)).toNatClampNeg) ((ro 1).2 (x3 + (2 : Int32)).toNatClampNeg) hq283) ?_
        change am_AW am_nw ro (d + 1) mr_L_law 900 [some (.ref (am_rB + 1)), some (.ref 0), some (.ref 63), some (.int x3)] [.int q283.1, .int q278.1] (S0, q283.2) (some (.int r)) (S0, m')
        refine am_AW.brP ok_L_law rfl rfl am_c_eq (fun c284 => ?_) (fun c284 => ?_)
        · rw [if_pos c284] at h
          exact am_AW.weak (f_L_law_b1249_ok hd (ih) x3  h) (by simp only [am_le, and_self])
        · rw [if_neg c284] at h
          refine am_AW.run am_base_ok ok_L_law (Nat.le_add_left 1 d) 1 (pc1 := 904) (ls1 := [some (.ref (am_rB + 1)), some (.ref 0), some (.ref 63), some (.int x3)]) (st1 := [.int (0 : Int32)]) (σ1 := (S0, q283.2)) rfl ?_
          obtain ⟨rfl, rfl⟩ := Prod.mk.inj (Option.some.inj h)
          exact am_AW.ret ok_L_law rfl rfl rfl (by decide)
      rw [if_neg c273] at h
      by_cases c285 : (((ro 1).2 x3.toNatClampNeg) &&& (63 : Int32)) = (26 : Int32)
      · rw [if_pos c285] at h
        refine am_AW.sw ok_L_law rfl (t := 905) (by rw [c285]; decide +kernel) ?_
        refine am_AW.run am_base_ok ok_L_law (Nat.le_add_left 1 d) 5 (pc1 := 910) (ls1 := [some (.ref (am_rB + 1)), some (.ref 0), some (.ref 63), some (.int x3)]) (st1 := [.int (x3 + (1 : Int32)), .ref (am_rB + 1), .ref 0]) (σ1 := (S0, m)) rfl ?_
        by_cases g286 : am_in (x3 + (1 : Int32)) (ro 1).1 = true
        rotate_left
        · rw [if_neg g286] at h
          cases h
        rw [if_pos g286] at h
        refine am_AW.rold ok_L_law (Nat.le_add_left 1 d) (j := 1) (by decide) rfl g286 ?_
        refine am_AW.run am_base_ok ok_L_law (Nat.le_add_left 1 d) 4 (pc1 := 915) (ls1 := [some (.ref (am_rB + 1)), some (.ref 0), some (.ref 63), some (.int x3)]) (st1 := [.int (x3 + (2 : Int32)), .ref (am_rB + 1), .int ((ro 1).2 (x3 + (1 : Int32)).toNatClampNeg), .ref 0]) (σ1 := (S0, m)) rfl ?_
        by_cases g287 : am_in (x3 + (2 : Int32)) (ro 1).1 = true
        rotate_left
        · rw [if_neg g287] at h
          cases h
        rw [if_pos g287] at h
        refine am_AW.rold ok_L_law (Nat.le_add_left 1 d) (j := 1) (by decide) rfl g287 ?_
        refine am_AW.run am_base_ok ok_L_law (Nat.le_add_left 1 d) 4 (pc1 := 920) (ls1 := [some (.ref (am_rB + 1)), some (.ref 0), some (.ref 63), some (.int x3)]) (st1 := [.int (x3 + (3 : Int32)), .ref (am_rB + 1), .int ((ro 1).2 (x3 + (2 : Int32)).toNatClampNeg), .int ((ro 1).2 (x3 + (1 : Int32)).toNatClampNeg), .ref 0]) (σ1 := (S0, m)) rfl ?_
        by_cases g288 : am_in (x3 + (3 : Int32)) (ro 1).1 = true
        rotate_left
        · rw [if_neg g288] at h
          cases h
        rw [if_pos g288] at h
        refine am_AW.rold ok_L_law (Nat.le_add_left 1 d) (j := 1) (by decide) rfl g288 ?_
        refine am_AW.run am_base_ok ok_L_law (Nat.le_add_left 1 d) 4 (pc1 := 925) (ls1 := [some (.ref (am_rB + 1)), some (.ref 0), some (.ref 63), some (.int x3)]) (st1 := [.int (x3 + (4 : Int32)), .ref (am_rB + 1), .int ((ro 1).2 (x3 + (3 : Int32)).toNatClampNeg), .int ((ro 1).2 (x3 + (2 : Int32)).toNatClampNeg), .int ((ro 1).2 (x3 + (1 : Int32)).toNatClampNeg), .ref 0]) (σ1 := (S0, m)) rfl ?_
        by_cases g289 : am_in (x3 + (4 : Int32)) (ro 1).1 = true
        rotate_left
        · rw [if_neg g289] at h
          cases h
        rw [if_pos g289] at h
        refine am_AW.rold ok_L_law (Nat.le_add_left 1 d) (j := 1) (by decide) rfl g289 ?_
        refine am_AW.run am_base_ok ok_L_law (Nat.le_add_left 1 d) 4 (pc1 := 930) (ls1 := [some (.ref (am_rB + 1)), some (.ref 0), some (.ref 63), some (.int x3)]) (st1 := [.int (x3 + (5 : Int32)), .ref (am_rB + 1), .int ((ro 1).2 (x3 + (4 : Int32)).toNatClampNeg), .int ((ro 1).2 (x3 + (3 : Int32)).toNatClampNeg), .int ((ro 1).2 (x3 + (2 : Int32)).toNatClampNeg), .int ((ro 1).2 (x3 + (1 : Int32)).toNatClampNeg), .ref 0]) (σ1 := (S0, m)) rfl ?_
        by_cases g290 : am_in (x3 + (5 : Int32)) (ro 1).1 = true
        rotate_left
        · rw [if_neg g290] at h
          cases h
        rw [if_pos g290] at h
        refine am_AW.rold ok_L_law (Nat.le_add_left 1 d) (j := 1) (by decide) rfl g290 ?_
        obtain ⟨q293, hq293, h⟩ := Option.bind_eq_some_iff.mp h
        refine am_AW.callV ok_L_law am_nw_ok (As := [.int ((ro 1).2 (x3 + (1 : Int32)).toNatClampNeg), .int ((ro 1).2 (x3 + (2 : Int32)).toNatClampNeg), .int ((ro 1).2 (x3 + (3 : Int32)).toNatClampNeg), .int ((ro 1).2 (x3 + (4 : Int32)).toNatClampNeg), .int ((ro 1).2 (x3 + (5 : Int32)).toNatClampNeg)]) (rest := []) rfl rfl rfl oR_C_who lk_L_123 iM_C_who sE_C_who (qc := kq9) rfl rfl rfl rfl (Nat.le_of_ble_eq_true rfl) (f_C_who_ok (d := d) (by omega) ((ro 1).2 (x3 + (1 : Int32)).toNatClampNeg) ((ro 1).2 (x3 + (2 : Int32)).toNatClampNeg) ((ro 1).2 (x3 + (3 : Int32)).toNatClampNeg) ((ro 1).2 (x3 + (4 : Int32)).toNatClampNeg) ((ro 1).2 (x3 + (5 : Int32)).toNatClampNeg) hq293) ?_
        change am_AW am_nw ro (d + 1) mr_L_law 934 [some (.ref (am_rB + 1)), some (.ref 0), some (.ref 63), some (.int x3)] [.int q293.1] (S0, q293.2) (some (.int r)) (S0, m')
        refine am_AW.run am_base_ok ok_L_law (Nat.le_add_left 1 d) 5 (pc1 := 939) (ls1 := [some (.ref (am_rB + 1)), some (.ref 0), some (.ref 63), some (.int x3)]) (st1 := [.int (x3 + (1 : Int32)), .ref (am_rB + 1), .ref 63, .int q293.1]) (σ1 := (S0, q293.2)) rfl ?_
        by_cases g294 : am_in (x3 + (1 : Int32)) (ro 1).1 = true
        rotate_left
        · rw [if_neg g294] at h
          cases h
        rw [if_pos g294] at h
        refine am_AW.rold ok_L_law (Nat.le_add_left 1 d) (j := 1) (by decide) rfl g294 ?_
        refine am_AW.run am_base_ok ok_L_law (Nat.le_add_left 1 d) 4 (pc1 := 944) (ls1 := [some (.ref (am_rB + 1)), some (.ref 0), some (.ref 63), some (.int x3)]) (st1 := [.int (x3 + (2 : Int32)), .ref (am_rB + 1), .int ((ro 1).2 (x3 + (1 : Int32)).toNatClampNeg), .ref 63, .int q293.1]) (σ1 := (S0, q293.2)) rfl ?_
        by_cases g295 : am_in (x3 + (2 : Int32)) (ro 1).1 = true
        rotate_left
        · rw [if_neg g295] at h
          cases h
        rw [if_pos g295] at h
        refine am_AW.rold ok_L_law (Nat.le_add_left 1 d) (j := 1) (by decide) rfl g295 ?_
        refine am_AW.run am_base_ok ok_L_law (Nat.le_add_left 1 d) 4 (pc1 := 949) (ls1 := [some (.ref (am_rB + 1)), some (.ref 0), some (.ref 63), some (.int x3)]) (st1 := [.int (x3 + (3 : Int32)), .ref (am_rB + 1), .int ((ro 1).2 (x3 + (2 : Int32)).toNatClampNeg), .int ((ro 1).2 (x3 + (1 : Int32)).toNatClampNeg), .ref 63, .int q293.1]) (σ1 := (S0, q293.2)) rfl ?_
        by_cases g296 : am_in (x3 + (3 : Int32)) (ro 1).1 = true
        rotate_left
        · rw [if_neg g296] at h
          cases h
        rw [if_pos g296] at h
        refine am_AW.rold ok_L_law (Nat.le_add_left 1 d) (j := 1) (by decide) rfl g296 ?_
        refine am_AW.run am_base_ok ok_L_law (Nat.le_add_left 1 d) 4 (pc1 := 954) (ls1 := [some (.ref (am_rB + 1)), some (.ref 0), some (.ref 63), some (.int x3)]) (st1 := [.int (x3 + (4 : Int32)), .ref (am_rB + 1), .int ((ro 1).2 (x3 + (3 : Int32)).toNatClampNeg), .int ((ro 1).2 (x3 + (2 : Int32)).toNatClampNeg), .int ((ro 1).2 (x3 + (1 : Int32)).toNatClampNeg), .ref 63, .int q293.1]) (σ1 := (S0, q293.2)) rfl ?_
        by_cases g297 : am_in (x3 + (4 : Int32)) (ro 1).1 = true
        rotate_left
        · rw [if_neg g297] at h
          cases h
        rw [if_pos g297] at h
        refine am_AW.rold ok_L_law (Nat.le_add_left 1 d) (j := 1) (by decide) rfl g297 ?_
        refine am_AW.run am_base_ok ok_L_law (Nat.le_add_left 1 d) 4 (pc1 := 959) (ls1 := [some (.ref (am_rB + 1)), some (.ref 0), some (.ref 63), some (.int x3)]) (st1 := [.int (x3 + (5 : Int32)), .ref (am_rB + 1), .int ((ro 1).2 (x3 + (4 : Int32)).toNatClampNeg), .int ((ro 1).2 (x3 + (3 : Int32)).toNatClampNeg), .int ((ro 1).2 (x3 + (2 : Int32)).toNatClampNeg), .int ((ro 1).2 (x3 + (1 : Int32)).toNatClampNeg), .ref 63, .int q293.1]) (σ1 := (S0, q293.2)) rfl ?_
        by_cases g298 : am_in (x3 + (5 : Int32)) (ro 1).1 = true
        rotate_left
        · rw [if_neg g298] at h
          cases h
        rw [if_pos g298] at h
        refine am_AW.rold ok_L_law (Nat.le_add_left 1 d) (j := 1) (by decide) rfl g298 ?_
        obtain ⟨q301, hq301, h⟩ := Option.bind_eq_some_iff.mp h
        refine am_AW.callV ok_L_law am_nw_ok (As := [.int ((ro 1).2 (x3 + (1 : Int32)).toNatClampNeg), .int ((ro 1).2 (x3 + (2 : Int32)).toNatClampNeg), .int ((ro 1).2 (x3 + (3 : Int32)).toNatClampNeg), .int ((ro 1).2 (x3 + (4 : Int32)).toNatClampNeg), .int ((ro 1).2 (x3 + (5 : Int32)).toNatClampNeg)]) (rest := [.int q293.1]) rfl rfl rfl oR_M_who lk_L_126 iM_M_who sE_M_who (qc := kq10) rfl rfl rfl rfl (Nat.le_of_ble_eq_true rfl) (f_M_who_ok (d := d) (by omega) ((ro 1).2 (x3 + (1 : Int32)).toNatClampNeg) ((ro 1).2 (x3 + (2 : Int32)).toNatClampNeg) ((ro 1).2 (x3 + (3 : Int32)).toNatClampNeg) ((ro 1).2 (x3 + (4 : Int32)).toNatClampNeg) ((ro 1).2 (x3 + (5 : Int32)).toNatClampNeg) hq301) ?_
        change am_AW am_nw ro (d + 1) mr_L_law 963 [some (.ref (am_rB + 1)), some (.ref 0), some (.ref 63), some (.int x3)] [.int q301.1, .int q293.1] (S0, q301.2) (some (.int r)) (S0, m')
        refine am_AW.brP ok_L_law rfl rfl am_c_eq (fun c302 => ?_) (fun c302 => ?_)
        · rw [if_pos c302] at h
          exact am_AW.weak (f_L_law_b1249_ok hd (ih) x3  h) (by simp only [am_le, and_self])
        · rw [if_neg c302] at h
          refine am_AW.run am_base_ok ok_L_law (Nat.le_add_left 1 d) 1 (pc1 := 967) (ls1 := [some (.ref (am_rB + 1)), some (.ref 0), some (.ref 63), some (.int x3)]) (st1 := [.int (0 : Int32)]) (σ1 := (S0, q301.2)) rfl ?_
          obtain ⟨rfl, rfl⟩ := Prod.mk.inj (Option.some.inj h)
          exact am_AW.ret ok_L_law rfl rfl rfl (by decide)
      rw [if_neg c285] at h
      by_cases c303 : (((ro 1).2 x3.toNatClampNeg) &&& (63 : Int32)) = (27 : Int32)
      · rw [if_pos c303] at h
        refine am_AW.sw ok_L_law rfl (t := 968) (by rw [c303]; decide +kernel) ?_
        refine am_AW.run am_base_ok ok_L_law (Nat.le_add_left 1 d) 5 (pc1 := 973) (ls1 := [some (.ref (am_rB + 1)), some (.ref 0), some (.ref 63), some (.int x3)]) (st1 := [.int (x3 + (1 : Int32)), .ref (am_rB + 1), .ref 0]) (σ1 := (S0, m)) rfl ?_
        by_cases g304 : am_in (x3 + (1 : Int32)) (ro 1).1 = true
        rotate_left
        · rw [if_neg g304] at h
          cases h
        rw [if_pos g304] at h
        refine am_AW.rold ok_L_law (Nat.le_add_left 1 d) (j := 1) (by decide) rfl g304 ?_
        refine am_AW.run am_base_ok ok_L_law (Nat.le_add_left 1 d) 4 (pc1 := 978) (ls1 := [some (.ref (am_rB + 1)), some (.ref 0), some (.ref 63), some (.int x3)]) (st1 := [.int (x3 + (2 : Int32)), .ref (am_rB + 1), .int ((ro 1).2 (x3 + (1 : Int32)).toNatClampNeg), .ref 0]) (σ1 := (S0, m)) rfl ?_
        by_cases g305 : am_in (x3 + (2 : Int32)) (ro 1).1 = true
        rotate_left
        · rw [if_neg g305] at h
          cases h
        rw [if_pos g305] at h
        refine am_AW.rold ok_L_law (Nat.le_add_left 1 d) (j := 1) (by decide) rfl g305 ?_
        refine am_AW.run am_base_ok ok_L_law (Nat.le_add_left 1 d) 4 (pc1 := 983) (ls1 := [some (.ref (am_rB + 1)), some (.ref 0), some (.ref 63), some (.int x3)]) (st1 := [.int (x3 + (3 : Int32)), .ref (am_rB + 1), .int ((ro 1).2 (x3 + (2 : Int32)).toNatClampNeg), .int ((ro 1).2 (x3 + (1 : Int32)).toNatClampNeg), .ref 0]) (σ1 := (S0, m)) rfl ?_
        by_cases g306 : am_in (x3 + (3 : Int32)) (ro 1).1 = true
        rotate_left
        · rw [if_neg g306] at h
          cases h
        rw [if_pos g306] at h
        refine am_AW.rold ok_L_law (Nat.le_add_left 1 d) (j := 1) (by decide) rfl g306 ?_
        obtain ⟨q309, hq309, h⟩ := Option.bind_eq_some_iff.mp h
        refine am_AW.callV ok_L_law am_nw_ok (As := [.int ((ro 1).2 (x3 + (1 : Int32)).toNatClampNeg), .int ((ro 1).2 (x3 + (2 : Int32)).toNatClampNeg), .int ((ro 1).2 (x3 + (3 : Int32)).toNatClampNeg)]) (rest := []) rfl rfl rfl oR_C_lost lk_L_127 iM_C_lost sE_C_lost (qc := kq9) rfl rfl rfl rfl (Nat.le_of_ble_eq_true rfl) (f_C_lost_ok (d := d) (by omega) ((ro 1).2 (x3 + (1 : Int32)).toNatClampNeg) ((ro 1).2 (x3 + (2 : Int32)).toNatClampNeg) ((ro 1).2 (x3 + (3 : Int32)).toNatClampNeg) hq309) ?_
        change am_AW am_nw ro (d + 1) mr_L_law 987 [some (.ref (am_rB + 1)), some (.ref 0), some (.ref 63), some (.int x3)] [.long q309.1] (S0, q309.2) (some (.int r)) (S0, m')
        refine am_AW.run am_base_ok ok_L_law (Nat.le_add_left 1 d) 5 (pc1 := 992) (ls1 := [some (.ref (am_rB + 1)), some (.ref 0), some (.ref 63), some (.int x3)]) (st1 := [.int (x3 + (1 : Int32)), .ref (am_rB + 1), .ref 63, .long q309.1]) (σ1 := (S0, q309.2)) rfl ?_
        by_cases g310 : am_in (x3 + (1 : Int32)) (ro 1).1 = true
        rotate_left
        · rw [if_neg g310] at h
          cases h
        rw [if_pos g310] at h
        refine am_AW.rold ok_L_law (Nat.le_add_left 1 d) (j := 1) (by decide) rfl g310 ?_
        refine am_AW.run am_base_ok ok_L_law (Nat.le_add_left 1 d) 4 (pc1 := 997) (ls1 := [some (.ref (am_rB + 1)), some (.ref 0), some (.ref 63), some (.int x3)]) (st1 := [.int (x3 + (2 : Int32)), .ref (am_rB + 1), .int ((ro 1).2 (x3 + (1 : Int32)).toNatClampNeg), .ref 63, .long q309.1]) (σ1 := (S0, q309.2)) rfl ?_
        by_cases g311 : am_in (x3 + (2 : Int32)) (ro 1).1 = true
        rotate_left
        · rw [if_neg g311] at h
          cases h
        rw [if_pos g311] at h
        refine am_AW.rold ok_L_law (Nat.le_add_left 1 d) (j := 1) (by decide) rfl g311 ?_
        refine am_AW.run am_base_ok ok_L_law (Nat.le_add_left 1 d) 4 (pc1 := 1002) (ls1 := [some (.ref (am_rB + 1)), some (.ref 0), some (.ref 63), some (.int x3)]) (st1 := [.int (x3 + (3 : Int32)), .ref (am_rB + 1), .int ((ro 1).2 (x3 + (2 : Int32)).toNatClampNeg), .int ((ro 1).2 (x3 + (1 : Int32)).toNatClampNeg), .ref 63, .long q309.1]) (σ1 := (S0, q309.2)) rfl ?_
        by_cases g312 : am_in (x3 + (3 : Int32)) (ro 1).1 = true
        rotate_left
        · rw [if_neg g312] at h
          cases h
        rw [if_pos g312] at h
        refine am_AW.rold ok_L_law (Nat.le_add_left 1 d) (j := 1) (by decide) rfl g312 ?_
        obtain ⟨q315, hq315, h⟩ := Option.bind_eq_some_iff.mp h
        refine am_AW.callV ok_L_law am_nw_ok (As := [.int ((ro 1).2 (x3 + (1 : Int32)).toNatClampNeg), .int ((ro 1).2 (x3 + (2 : Int32)).toNatClampNeg), .int ((ro 1).2 (x3 + (3 : Int32)).toNatClampNeg)]) (rest := [.long q309.1]) rfl rfl rfl oR_M_lost lk_L_131 iM_M_lost sE_M_lost (qc := kq10) rfl rfl rfl rfl (Nat.le_of_ble_eq_true rfl) (f_M_lost_ok (d := d) (by omega) ((ro 1).2 (x3 + (1 : Int32)).toNatClampNeg) ((ro 1).2 (x3 + (2 : Int32)).toNatClampNeg) ((ro 1).2 (x3 + (3 : Int32)).toNatClampNeg) hq315) ?_
        change am_AW am_nw ro (d + 1) mr_L_law 1006 [some (.ref (am_rB + 1)), some (.ref 0), some (.ref 63), some (.int x3)] [.long q315.1, .long q309.1] (S0, q315.2) (some (.int r)) (S0, m')
        refine am_AW.run am_base_ok ok_L_law (Nat.le_add_left 1 d) 1 (pc1 := 1007) (ls1 := [some (.ref (am_rB + 1)), some (.ref 0), some (.ref 63), some (.int x3)]) (st1 := [.int (lg_cmp q309.1 q315.1)]) (σ1 := (S0, q315.2)) rfl ?_
        refine am_AW.brP ok_L_law rfl rfl am_c_eq (fun c316 => ?_) (fun c316 => ?_)
        · rw [if_pos c316] at h
          exact am_AW.weak (f_L_law_b1249_ok hd (ih) x3  h) (by simp only [am_le, and_self])
        · rw [if_neg c316] at h
          refine am_AW.run am_base_ok ok_L_law (Nat.le_add_left 1 d) 1 (pc1 := 1011) (ls1 := [some (.ref (am_rB + 1)), some (.ref 0), some (.ref 63), some (.int x3)]) (st1 := [.int (0 : Int32)]) (σ1 := (S0, q315.2)) rfl ?_
          obtain ⟨rfl, rfl⟩ := Prod.mk.inj (Option.some.inj h)
          exact am_AW.ret ok_L_law rfl rfl rfl (by decide)
      rw [if_neg c303] at h
      by_cases c317 : (((ro 1).2 x3.toNatClampNeg) &&& (63 : Int32)) = (28 : Int32)
      · rw [if_pos c317] at h
        refine am_AW.sw ok_L_law rfl (t := 1012) (by rw [c317]; decide +kernel) ?_
        refine am_AW.run am_base_ok ok_L_law (Nat.le_add_left 1 d) 5 (pc1 := 1017) (ls1 := [some (.ref (am_rB + 1)), some (.ref 0), some (.ref 63), some (.int x3)]) (st1 := [.int (x3 + (1 : Int32)), .ref (am_rB + 1), .ref 0]) (σ1 := (S0, m)) rfl ?_
        by_cases g318 : am_in (x3 + (1 : Int32)) (ro 1).1 = true
        rotate_left
        · rw [if_neg g318] at h
          cases h
        rw [if_pos g318] at h
        refine am_AW.rold ok_L_law (Nat.le_add_left 1 d) (j := 1) (by decide) rfl g318 ?_
        refine am_AW.run am_base_ok ok_L_law (Nat.le_add_left 1 d) 4 (pc1 := 1022) (ls1 := [some (.ref (am_rB + 1)), some (.ref 0), some (.ref 63), some (.int x3)]) (st1 := [.int (x3 + (2 : Int32)), .ref (am_rB + 1), .int ((ro 1).2 (x3 + (1 : Int32)).toNatClampNeg), .ref 0]) (σ1 := (S0, m)) rfl ?_
        by_cases g319 : am_in (x3 + (2 : Int32)) (ro 1).1 = true
        rotate_left
        · rw [if_neg g319] at h
          cases h
        rw [if_pos g319] at h
        refine am_AW.rold ok_L_law (Nat.le_add_left 1 d) (j := 1) (by decide) rfl g319 ?_
        refine am_AW.run am_base_ok ok_L_law (Nat.le_add_left 1 d) 4 (pc1 := 1027) (ls1 := [some (.ref (am_rB + 1)), some (.ref 0), some (.ref 63), some (.int x3)]) (st1 := [.int (x3 + (3 : Int32)), .ref (am_rB + 1), .int ((ro 1).2 (x3 + (2 : Int32)).toNatClampNeg), .int ((ro 1).2 (x3 + (1 : Int32)).toNatClampNeg), .ref 0]) (σ1 := (S0, m)) rfl ?_
        by_cases g320 : am_in (x3 + (3 : Int32)) (ro 1).1 = true
        rotate_left
        · rw [if_neg g320] at h
          cases h
        rw [if_pos g320] at h
        refine am_AW.rold ok_L_law (Nat.le_add_left 1 d) (j := 1) (by decide) rfl g320 ?_
        obtain ⟨q323, hq323, h⟩ := Option.bind_eq_some_iff.mp h
        refine am_AW.callV ok_L_law am_nw_ok (As := [.int ((ro 1).2 (x3 + (1 : Int32)).toNatClampNeg), .int ((ro 1).2 (x3 + (2 : Int32)).toNatClampNeg), .int ((ro 1).2 (x3 + (3 : Int32)).toNatClampNeg)]) (rest := []) rfl rfl rfl oR_C_drawn lk_L_132 iM_C_drawn sE_C_drawn (qc := kq9) rfl rfl rfl rfl (Nat.le_of_ble_eq_true rfl) (f_C_drawn_ok (d := d) (by omega) ((ro 1).2 (x3 + (1 : Int32)).toNatClampNeg) ((ro 1).2 (x3 + (2 : Int32)).toNatClampNeg) ((ro 1).2 (x3 + (3 : Int32)).toNatClampNeg) hq323) ?_
        change am_AW am_nw ro (d + 1) mr_L_law 1031 [some (.ref (am_rB + 1)), some (.ref 0), some (.ref 63), some (.int x3)] [.int q323.1] (S0, q323.2) (some (.int r)) (S0, m')
        refine am_AW.run am_base_ok ok_L_law (Nat.le_add_left 1 d) 5 (pc1 := 1036) (ls1 := [some (.ref (am_rB + 1)), some (.ref 0), some (.ref 63), some (.int x3)]) (st1 := [.int (x3 + (1 : Int32)), .ref (am_rB + 1), .ref 63, .int q323.1]) (σ1 := (S0, q323.2)) rfl ?_
        by_cases g324 : am_in (x3 + (1 : Int32)) (ro 1).1 = true
        rotate_left
        · rw [if_neg g324] at h
          cases h
        rw [if_pos g324] at h
        refine am_AW.rold ok_L_law (Nat.le_add_left 1 d) (j := 1) (by decide) rfl g324 ?_
        refine am_AW.run am_base_ok ok_L_law (Nat.le_add_left 1 d) 4 (pc1 := 1041) (ls1 := [some (.ref (am_rB + 1)), some (.ref 0), some (.ref 63), some (.int x3)]) (st1 := [.int (x3 + (2 : Int32)), .ref (am_rB + 1), .int ((ro 1).2 (x3 + (1 : Int32)).toNatClampNeg), .ref 63, .int q323.1]) (σ1 := (S0, q323.2)) rfl ?_
        by_cases g325 : am_in (x3 + (2 : Int32)) (ro 1).1 = true
        rotate_left
        · rw [if_neg g325] at h
          cases h
        rw [if_pos g325] at h
        refine am_AW.rold ok_L_law (Nat.le_add_left 1 d) (j := 1) (by decide) rfl g325 ?_
        refine am_AW.run am_base_ok ok_L_law (Nat.le_add_left 1 d) 4 (pc1 := 1046) (ls1 := [some (.ref (am_rB + 1)), some (.ref 0), some (.ref 63), some (.int x3)]) (st1 := [.int (x3 + (3 : Int32)), .ref (am_rB + 1), .int ((ro 1).2 (x3 + (2 : Int32)).toNatClampNeg), .int ((ro 1).2 (x3 + (1 : Int32)).toNatClampNeg), .ref 63, .int q323.1]) (σ1 := (S0, q323.2)) rfl ?_
        by_cases g326 : am_in (x3 + (3 : Int32)) (ro 1).1 = true
        rotate_left
        · rw [if_neg g326] at h
          cases h
        rw [if_pos g326] at h
        refine am_AW.rold ok_L_law (Nat.le_add_left 1 d) (j := 1) (by decide) rfl g326 ?_
        obtain ⟨q329, hq329, h⟩ := Option.bind_eq_some_iff.mp h
        refine am_AW.callV ok_L_law am_nw_ok (As := [.int ((ro 1).2 (x3 + (1 : Int32)).toNatClampNeg), .int ((ro 1).2 (x3 + (2 : Int32)).toNatClampNeg), .int ((ro 1).2 (x3 + (3 : Int32)).toNatClampNeg)]) (rest := [.int q323.1]) rfl rfl rfl oR_M_drawn lk_L_135 iM_M_drawn sE_M_drawn (qc := kq10) rfl rfl rfl rfl (Nat.le_of_ble_eq_true rfl) (f_M_drawn_ok (d := d) (by omega) ((ro 1).2 (x3 + (1 : Int32)).toNatClampNeg) ((ro 1).2 (x3 + (2 : Int32)).toNatClampNeg) ((ro 1).2 (x3 + (3 : Int32)).toNatClampNeg) hq329) ?_
        change am_AW am_nw ro (d + 1) mr_L_law 1050 [some (.ref (am_rB + 1)), some (.ref 0), some (.ref 63), some (.int x3)] [.int q329.1, .int q323.1] (S0, q329.2) (some (.int r)) (S0, m')
        refine am_AW.brP ok_L_law rfl rfl am_c_eq (fun c330 => ?_) (fun c330 => ?_)
        · rw [if_pos c330] at h
          exact am_AW.weak (f_L_law_b1249_ok hd (ih) x3  h) (by simp only [am_le, and_self])
        · rw [if_neg c330] at h
          refine am_AW.run am_base_ok ok_L_law (Nat.le_add_left 1 d) 1 (pc1 := 1054) (ls1 := [some (.ref (am_rB + 1)), some (.ref 0), some (.ref 63), some (.int x3)]) (st1 := [.int (0 : Int32)]) (σ1 := (S0, q329.2)) rfl ?_
          obtain ⟨rfl, rfl⟩ := Prod.mk.inj (Option.some.inj h)
          exact am_AW.ret ok_L_law rfl rfl rfl (by decide)
      rw [if_neg c317] at h
      by_cases c331 : (((ro 1).2 x3.toNatClampNeg) &&& (63 : Int32)) = (29 : Int32)
      · rw [if_pos c331] at h
        refine am_AW.sw ok_L_law rfl (t := 1055) (by rw [c331]; decide +kernel) ?_
        refine am_AW.run am_base_ok ok_L_law (Nat.le_add_left 1 d) 5 (pc1 := 1060) (ls1 := [some (.ref (am_rB + 1)), some (.ref 0), some (.ref 63), some (.int x3)]) (st1 := [.int (x3 + (1 : Int32)), .ref (am_rB + 1), .ref 0]) (σ1 := (S0, m)) rfl ?_
        by_cases g332 : am_in (x3 + (1 : Int32)) (ro 1).1 = true
        rotate_left
        · rw [if_neg g332] at h
          cases h
        rw [if_pos g332] at h
        refine am_AW.rold ok_L_law (Nat.le_add_left 1 d) (j := 1) (by decide) rfl g332 ?_
        obtain ⟨q335, hq335, h⟩ := Option.bind_eq_some_iff.mp h
        refine am_AW.callV ok_L_law am_nw_ok (As := [.int ((ro 1).2 (x3 + (1 : Int32)).toNatClampNeg)]) (rest := []) rfl rfl rfl oR_C_image lk_L_136 iM_C_image sE_C_image (qc := kq9) rfl rfl rfl rfl (Nat.le_of_ble_eq_true rfl) (f_C_image_ok (d := d) (by omega) ((ro 1).2 (x3 + (1 : Int32)).toNatClampNeg) hq335) ?_
        change am_AW am_nw ro (d + 1) mr_L_law 1064 [some (.ref (am_rB + 1)), some (.ref 0), some (.ref 63), some (.int x3)] [.int q335.1] (S0, q335.2) (some (.int r)) (S0, m')
        refine am_AW.run am_base_ok ok_L_law (Nat.le_add_left 1 d) 5 (pc1 := 1069) (ls1 := [some (.ref (am_rB + 1)), some (.ref 0), some (.ref 63), some (.int x3)]) (st1 := [.int (x3 + (1 : Int32)), .ref (am_rB + 1), .ref 63, .int q335.1]) (σ1 := (S0, q335.2)) rfl ?_
        by_cases g336 : am_in (x3 + (1 : Int32)) (ro 1).1 = true
        rotate_left
        · rw [if_neg g336] at h
          cases h
        rw [if_pos g336] at h
        refine am_AW.rold ok_L_law (Nat.le_add_left 1 d) (j := 1) (by decide) rfl g336 ?_
        obtain ⟨q339, hq339, h⟩ := Option.bind_eq_some_iff.mp h
        refine am_AW.callV ok_L_law am_nw_ok (As := [.int ((ro 1).2 (x3 + (1 : Int32)).toNatClampNeg)]) (rest := [.int q335.1]) rfl rfl rfl oR_M_image lk_L_139 iM_M_image sE_M_image (qc := kq10) rfl rfl rfl rfl (Nat.le_of_ble_eq_true rfl) (f_M_image_ok (d := d) (by omega) ((ro 1).2 (x3 + (1 : Int32)).toNatClampNeg) hq339) ?_
        change am_AW am_nw ro (d + 1) mr_L_law 1073 [some (.ref (am_rB + 1)), some (.ref 0), some (.ref 63), some (.int x3)] [.int q339.1, .int q335.1] (S0, q339.2) (some (.int r)) (S0, m')
        refine am_AW.brP ok_L_law rfl rfl am_c_eq (fun c340 => ?_) (fun c340 => ?_)
        · rw [if_pos c340] at h
          exact am_AW.weak (f_L_law_b1249_ok hd (ih) x3  h) (by simp only [am_le, and_self])
        · rw [if_neg c340] at h
          refine am_AW.run am_base_ok ok_L_law (Nat.le_add_left 1 d) 1 (pc1 := 1077) (ls1 := [some (.ref (am_rB + 1)), some (.ref 0), some (.ref 63), some (.int x3)]) (st1 := [.int (0 : Int32)]) (σ1 := (S0, q339.2)) rfl ?_
          obtain ⟨rfl, rfl⟩ := Prod.mk.inj (Option.some.inj h)
          exact am_AW.ret ok_L_law rfl rfl rfl (by decide)
      rw [if_neg c331] at h
      by_cases c341 : (((ro 1).2 x3.toNatClampNeg) &&& (63 : Int32)) = (30 : Int32)
      · rw [if_pos c341] at h
        refine am_AW.sw ok_L_law rfl (t := 1078) (by rw [c341]; decide +kernel) ?_
        refine am_AW.run am_base_ok ok_L_law (Nat.le_add_left 1 d) 5 (pc1 := 1083) (ls1 := [some (.ref (am_rB + 1)), some (.ref 0), some (.ref 63), some (.int x3)]) (st1 := [.int (x3 + (1 : Int32)), .ref (am_rB + 1), .ref 0]) (σ1 := (S0, m)) rfl ?_
        by_cases g342 : am_in (x3 + (1 : Int32)) (ro 1).1 = true
        rotate_left
        · rw [if_neg g342] at h
          cases h
        rw [if_pos g342] at h
        refine am_AW.rold ok_L_law (Nat.le_add_left 1 d) (j := 1) (by decide) rfl g342 ?_
        obtain ⟨q345, hq345, h⟩ := Option.bind_eq_some_iff.mp h
        refine am_AW.callV ok_L_law am_nw_ok (As := [.int ((ro 1).2 (x3 + (1 : Int32)).toNatClampNeg)]) (rest := []) rfl rfl rfl oR_C_restore lk_L_140 iM_C_restore sE_C_restore (qc := kq9) rfl rfl rfl rfl (Nat.le_of_ble_eq_true rfl) (f_C_restore_ok (d := d) (by omega) ((ro 1).2 (x3 + (1 : Int32)).toNatClampNeg) hq345) ?_
        change am_AW am_nw ro (d + 1) mr_L_law 1087 [some (.ref (am_rB + 1)), some (.ref 0), some (.ref 63), some (.int x3)] [.int q345.1] (S0, q345.2) (some (.int r)) (S0, m')
        refine am_AW.run am_base_ok ok_L_law (Nat.le_add_left 1 d) 5 (pc1 := 1092) (ls1 := [some (.ref (am_rB + 1)), some (.ref 0), some (.ref 63), some (.int x3)]) (st1 := [.int (x3 + (1 : Int32)), .ref (am_rB + 1), .ref 63, .int q345.1]) (σ1 := (S0, q345.2)) rfl ?_
        by_cases g346 : am_in (x3 + (1 : Int32)) (ro 1).1 = true
        rotate_left
        · rw [if_neg g346] at h
          cases h
        rw [if_pos g346] at h
        refine am_AW.rold ok_L_law (Nat.le_add_left 1 d) (j := 1) (by decide) rfl g346 ?_
        obtain ⟨q349, hq349, h⟩ := Option.bind_eq_some_iff.mp h
        refine am_AW.callV ok_L_law am_nw_ok (As := [.int ((ro 1).2 (x3 + (1 : Int32)).toNatClampNeg)]) (rest := [.int q345.1]) rfl rfl rfl oR_M_restore lk_L_143 iM_M_restore sE_M_restore (qc := kq10) rfl rfl rfl rfl (Nat.le_of_ble_eq_true rfl) (f_M_restore_ok (d := d) (by omega) ((ro 1).2 (x3 + (1 : Int32)).toNatClampNeg) hq349) ?_
        change am_AW am_nw ro (d + 1) mr_L_law 1096 [some (.ref (am_rB + 1)), some (.ref 0), some (.ref 63), some (.int x3)] [.int q349.1, .int q345.1] (S0, q349.2) (some (.int r)) (S0, m')
        refine am_AW.brP ok_L_law rfl rfl am_c_eq (fun c350 => ?_) (fun c350 => ?_)
        · rw [if_pos c350] at h
          exact am_AW.weak (f_L_law_b1249_ok hd (ih) x3  h) (by simp only [am_le, and_self])
        · rw [if_neg c350] at h
          refine am_AW.run am_base_ok ok_L_law (Nat.le_add_left 1 d) 1 (pc1 := 1100) (ls1 := [some (.ref (am_rB + 1)), some (.ref 0), some (.ref 63), some (.int x3)]) (st1 := [.int (0 : Int32)]) (σ1 := (S0, q349.2)) rfl ?_
          obtain ⟨rfl, rfl⟩ := Prod.mk.inj (Option.some.inj h)
          exact am_AW.ret ok_L_law rfl rfl rfl (by decide)
      rw [if_neg c341] at h
      by_cases c351 : (((ro 1).2 x3.toNatClampNeg) &&& (63 : Int32)) = (31 : Int32)
      · rw [if_pos c351] at h
        refine am_AW.sw ok_L_law rfl (t := 1101) (by rw [c351]; decide +kernel) ?_
        refine am_AW.run am_base_ok ok_L_law (Nat.le_add_left 1 d) 5 (pc1 := 1106) (ls1 := [some (.ref (am_rB + 1)), some (.ref 0), some (.ref 63), some (.int x3)]) (st1 := [.int (x3 + (1 : Int32)), .ref (am_rB + 1), .ref 0]) (σ1 := (S0, m)) rfl ?_
        by_cases g352 : am_in (x3 + (1 : Int32)) (ro 1).1 = true
        rotate_left
        · rw [if_neg g352] at h
          cases h
        rw [if_pos g352] at h
        refine am_AW.rold ok_L_law (Nat.le_add_left 1 d) (j := 1) (by decide) rfl g352 ?_
        obtain ⟨q355, hq355, h⟩ := Option.bind_eq_some_iff.mp h
        refine am_AW.callV ok_L_law am_nw_ok (As := [.int ((ro 1).2 (x3 + (1 : Int32)).toNatClampNeg)]) (rest := []) rfl rfl rfl oR_C_kind lk_L_144 iM_C_kind sE_C_kind (qc := kq9) rfl rfl rfl rfl (Nat.le_of_ble_eq_true rfl) (f_C_kind_ok (d := d) (by omega) ((ro 1).2 (x3 + (1 : Int32)).toNatClampNeg) hq355) ?_
        change am_AW am_nw ro (d + 1) mr_L_law 1110 [some (.ref (am_rB + 1)), some (.ref 0), some (.ref 63), some (.int x3)] [.int q355.1] (S0, q355.2) (some (.int r)) (S0, m')
        refine am_AW.run am_base_ok ok_L_law (Nat.le_add_left 1 d) 5 (pc1 := 1115) (ls1 := [some (.ref (am_rB + 1)), some (.ref 0), some (.ref 63), some (.int x3)]) (st1 := [.int (x3 + (1 : Int32)), .ref (am_rB + 1), .ref 63, .int q355.1]) (σ1 := (S0, q355.2)) rfl ?_
        by_cases g356 : am_in (x3 + (1 : Int32)) (ro 1).1 = true
        rotate_left
        · rw [if_neg g356] at h
          cases h
        rw [if_pos g356] at h
        refine am_AW.rold ok_L_law (Nat.le_add_left 1 d) (j := 1) (by decide) rfl g356 ?_
        obtain ⟨q359, hq359, h⟩ := Option.bind_eq_some_iff.mp h
        refine am_AW.callV ok_L_law am_nw_ok (As := [.int ((ro 1).2 (x3 + (1 : Int32)).toNatClampNeg)]) (rest := [.int q355.1]) rfl rfl rfl oR_M_kind lk_L_147 iM_M_kind sE_M_kind (qc := kq10) rfl rfl rfl rfl (Nat.le_of_ble_eq_true rfl) (f_M_kind_ok (d := d) (by omega) ((ro 1).2 (x3 + (1 : Int32)).toNatClampNeg) hq359) ?_
        change am_AW am_nw ro (d + 1) mr_L_law 1119 [some (.ref (am_rB + 1)), some (.ref 0), some (.ref 63), some (.int x3)] [.int q359.1, .int q355.1] (S0, q359.2) (some (.int r)) (S0, m')
        refine am_AW.brP ok_L_law rfl rfl am_c_eq (fun c360 => ?_) (fun c360 => ?_)
        · rw [if_pos c360] at h
          exact am_AW.weak (f_L_law_b1249_ok hd (ih) x3  h) (by simp only [am_le, and_self])
        · rw [if_neg c360] at h
          refine am_AW.run am_base_ok ok_L_law (Nat.le_add_left 1 d) 1 (pc1 := 1123) (ls1 := [some (.ref (am_rB + 1)), some (.ref 0), some (.ref 63), some (.int x3)]) (st1 := [.int (0 : Int32)]) (σ1 := (S0, q359.2)) rfl ?_
          obtain ⟨rfl, rfl⟩ := Prod.mk.inj (Option.some.inj h)
          exact am_AW.ret ok_L_law rfl rfl rfl (by decide)
      rw [if_neg c351] at h
      by_cases c361 : (((ro 1).2 x3.toNatClampNeg) &&& (63 : Int32)) = (32 : Int32)
      · rw [if_pos c361] at h
        refine am_AW.sw ok_L_law rfl (t := 1124) (by rw [c361]; decide +kernel) ?_
        refine am_AW.run am_base_ok ok_L_law (Nat.le_add_left 1 d) 5 (pc1 := 1129) (ls1 := [some (.ref (am_rB + 1)), some (.ref 0), some (.ref 63), some (.int x3)]) (st1 := [.int (x3 + (1 : Int32)), .ref (am_rB + 1), .ref 0]) (σ1 := (S0, m)) rfl ?_
        by_cases g362 : am_in (x3 + (1 : Int32)) (ro 1).1 = true
        rotate_left
        · rw [if_neg g362] at h
          cases h
        rw [if_pos g362] at h
        refine am_AW.rold ok_L_law (Nat.le_add_left 1 d) (j := 1) (by decide) rfl g362 ?_
        refine am_AW.run am_base_ok ok_L_law (Nat.le_add_left 1 d) 4 (pc1 := 1134) (ls1 := [some (.ref (am_rB + 1)), some (.ref 0), some (.ref 63), some (.int x3)]) (st1 := [.int (x3 + (2 : Int32)), .ref (am_rB + 1), .int ((ro 1).2 (x3 + (1 : Int32)).toNatClampNeg), .ref 0]) (σ1 := (S0, m)) rfl ?_
        by_cases g363 : am_in (x3 + (2 : Int32)) (ro 1).1 = true
        rotate_left
        · rw [if_neg g363] at h
          cases h
        rw [if_pos g363] at h
        refine am_AW.rold ok_L_law (Nat.le_add_left 1 d) (j := 1) (by decide) rfl g363 ?_
        obtain ⟨q366, hq366, h⟩ := Option.bind_eq_some_iff.mp h
        refine am_AW.callV ok_L_law am_nw_ok (As := [.int ((ro 1).2 (x3 + (1 : Int32)).toNatClampNeg), .int ((ro 1).2 (x3 + (2 : Int32)).toNatClampNeg)]) (rest := []) rfl rfl rfl oR_C_as lk_L_148 iM_C_as sE_C_as (qc := kq9) rfl rfl rfl rfl (Nat.le_of_ble_eq_true rfl) (f_C_as_ok (d := d) (by omega) ((ro 1).2 (x3 + (1 : Int32)).toNatClampNeg) ((ro 1).2 (x3 + (2 : Int32)).toNatClampNeg) hq366) ?_
        change am_AW am_nw ro (d + 1) mr_L_law 1138 [some (.ref (am_rB + 1)), some (.ref 0), some (.ref 63), some (.int x3)] [.int q366.1] (S0, q366.2) (some (.int r)) (S0, m')
        refine am_AW.run am_base_ok ok_L_law (Nat.le_add_left 1 d) 5 (pc1 := 1143) (ls1 := [some (.ref (am_rB + 1)), some (.ref 0), some (.ref 63), some (.int x3)]) (st1 := [.int (x3 + (1 : Int32)), .ref (am_rB + 1), .ref 63, .int q366.1]) (σ1 := (S0, q366.2)) rfl ?_
        by_cases g367 : am_in (x3 + (1 : Int32)) (ro 1).1 = true
        rotate_left
        · rw [if_neg g367] at h
          cases h
        rw [if_pos g367] at h
        refine am_AW.rold ok_L_law (Nat.le_add_left 1 d) (j := 1) (by decide) rfl g367 ?_
        refine am_AW.run am_base_ok ok_L_law (Nat.le_add_left 1 d) 4 (pc1 := 1148) (ls1 := [some (.ref (am_rB + 1)), some (.ref 0), some (.ref 63), some (.int x3)]) (st1 := [.int (x3 + (2 : Int32)), .ref (am_rB + 1), .int ((ro 1).2 (x3 + (1 : Int32)).toNatClampNeg), .ref 63, .int q366.1]) (σ1 := (S0, q366.2)) rfl ?_
        by_cases g368 : am_in (x3 + (2 : Int32)) (ro 1).1 = true
        rotate_left
        · rw [if_neg g368] at h
          cases h
        rw [if_pos g368] at h
        refine am_AW.rold ok_L_law (Nat.le_add_left 1 d) (j := 1) (by decide) rfl g368 ?_
        obtain ⟨q371, hq371, h⟩ := Option.bind_eq_some_iff.mp h
        refine am_AW.callV ok_L_law am_nw_ok (As := [.int ((ro 1).2 (x3 + (1 : Int32)).toNatClampNeg), .int ((ro 1).2 (x3 + (2 : Int32)).toNatClampNeg)]) (rest := [.int q366.1]) rfl rfl rfl oR_M_as lk_L_151 iM_M_as sE_M_as (qc := kq10) rfl rfl rfl rfl (Nat.le_of_ble_eq_true rfl) (f_M_as_ok (d := d) (by omega) ((ro 1).2 (x3 + (1 : Int32)).toNatClampNeg) ((ro 1).2 (x3 + (2 : Int32)).toNatClampNeg) hq371) ?_
        change am_AW am_nw ro (d + 1) mr_L_law 1152 [some (.ref (am_rB + 1)), some (.ref 0), some (.ref 63), some (.int x3)] [.int q371.1, .int q366.1] (S0, q371.2) (some (.int r)) (S0, m')
        refine am_AW.brP ok_L_law rfl rfl am_c_eq (fun c372 => ?_) (fun c372 => ?_)
        · rw [if_pos c372] at h
          exact am_AW.weak (f_L_law_b1249_ok hd (ih) x3  h) (by simp only [am_le, and_self])
        · rw [if_neg c372] at h
          refine am_AW.run am_base_ok ok_L_law (Nat.le_add_left 1 d) 1 (pc1 := 1156) (ls1 := [some (.ref (am_rB + 1)), some (.ref 0), some (.ref 63), some (.int x3)]) (st1 := [.int (0 : Int32)]) (σ1 := (S0, q371.2)) rfl ?_
          obtain ⟨rfl, rfl⟩ := Prod.mk.inj (Option.some.inj h)
          exact am_AW.ret ok_L_law rfl rfl rfl (by decide)
      rw [if_neg c361] at h
      by_cases c373 : (((ro 1).2 x3.toNatClampNeg) &&& (63 : Int32)) = (33 : Int32)
      · rw [if_pos c373] at h
        refine am_AW.sw ok_L_law rfl (t := 1157) (by rw [c373]; decide +kernel) ?_
        refine am_AW.run am_base_ok ok_L_law (Nat.le_add_left 1 d) 5 (pc1 := 1162) (ls1 := [some (.ref (am_rB + 1)), some (.ref 0), some (.ref 63), some (.int x3)]) (st1 := [.int (x3 + (1 : Int32)), .ref (am_rB + 1), .ref 0]) (σ1 := (S0, m)) rfl ?_
        by_cases g374 : am_in (x3 + (1 : Int32)) (ro 1).1 = true
        rotate_left
        · rw [if_neg g374] at h
          cases h
        rw [if_pos g374] at h
        refine am_AW.rold ok_L_law (Nat.le_add_left 1 d) (j := 1) (by decide) rfl g374 ?_
        refine am_AW.run am_base_ok ok_L_law (Nat.le_add_left 1 d) 4 (pc1 := 1167) (ls1 := [some (.ref (am_rB + 1)), some (.ref 0), some (.ref 63), some (.int x3)]) (st1 := [.int (x3 + (2 : Int32)), .ref (am_rB + 1), .int ((ro 1).2 (x3 + (1 : Int32)).toNatClampNeg), .ref 0]) (σ1 := (S0, m)) rfl ?_
        by_cases g375 : am_in (x3 + (2 : Int32)) (ro 1).1 = true
        rotate_left
        · rw [if_neg g375] at h
          cases h
        rw [if_pos g375] at h
        refine am_AW.rold ok_L_law (Nat.le_add_left 1 d) (j := 1) (by decide) rfl g375 ?_
        obtain ⟨q378, hq378, h⟩ := Option.bind_eq_some_iff.mp h
        refine am_AW.callV ok_L_law am_nw_ok (As := [.int ((ro 1).2 (x3 + (1 : Int32)).toNatClampNeg), .int ((ro 1).2 (x3 + (2 : Int32)).toNatClampNeg)]) (rest := []) rfl rfl rfl oR_C_ask lk_L_152 iM_C_ask sE_C_ask (qc := kq9) rfl rfl rfl rfl (Nat.le_of_ble_eq_true rfl) (f_C_ask_ok (d := d) (by omega) ((ro 1).2 (x3 + (1 : Int32)).toNatClampNeg) ((ro 1).2 (x3 + (2 : Int32)).toNatClampNeg) hq378) ?_
        change am_AW am_nw ro (d + 1) mr_L_law 1171 [some (.ref (am_rB + 1)), some (.ref 0), some (.ref 63), some (.int x3)] [.int q378.1] (S0, q378.2) (some (.int r)) (S0, m')
        refine am_AW.run am_base_ok ok_L_law (Nat.le_add_left 1 d) 5 (pc1 := 1176) (ls1 := [some (.ref (am_rB + 1)), some (.ref 0), some (.ref 63), some (.int x3)]) (st1 := [.int (x3 + (1 : Int32)), .ref (am_rB + 1), .ref 63, .int q378.1]) (σ1 := (S0, q378.2)) rfl ?_
        by_cases g379 : am_in (x3 + (1 : Int32)) (ro 1).1 = true
        rotate_left
        · rw [if_neg g379] at h
          cases h
        rw [if_pos g379] at h
        refine am_AW.rold ok_L_law (Nat.le_add_left 1 d) (j := 1) (by decide) rfl g379 ?_
        refine am_AW.run am_base_ok ok_L_law (Nat.le_add_left 1 d) 4 (pc1 := 1181) (ls1 := [some (.ref (am_rB + 1)), some (.ref 0), some (.ref 63), some (.int x3)]) (st1 := [.int (x3 + (2 : Int32)), .ref (am_rB + 1), .int ((ro 1).2 (x3 + (1 : Int32)).toNatClampNeg), .ref 63, .int q378.1]) (σ1 := (S0, q378.2)) rfl ?_
        by_cases g380 : am_in (x3 + (2 : Int32)) (ro 1).1 = true
        rotate_left
        · rw [if_neg g380] at h
          cases h
        rw [if_pos g380] at h
        refine am_AW.rold ok_L_law (Nat.le_add_left 1 d) (j := 1) (by decide) rfl g380 ?_
        obtain ⟨q383, hq383, h⟩ := Option.bind_eq_some_iff.mp h
        refine am_AW.callV ok_L_law am_nw_ok (As := [.int ((ro 1).2 (x3 + (1 : Int32)).toNatClampNeg), .int ((ro 1).2 (x3 + (2 : Int32)).toNatClampNeg)]) (rest := [.int q378.1]) rfl rfl rfl oR_M_ask lk_L_155 iM_M_ask sE_M_ask (qc := kq10) rfl rfl rfl rfl (Nat.le_of_ble_eq_true rfl) (f_M_ask_ok (d := d) (by omega) ((ro 1).2 (x3 + (1 : Int32)).toNatClampNeg) ((ro 1).2 (x3 + (2 : Int32)).toNatClampNeg) hq383) ?_
        change am_AW am_nw ro (d + 1) mr_L_law 1185 [some (.ref (am_rB + 1)), some (.ref 0), some (.ref 63), some (.int x3)] [.int q383.1, .int q378.1] (S0, q383.2) (some (.int r)) (S0, m')
        refine am_AW.brP ok_L_law rfl rfl am_c_eq (fun c384 => ?_) (fun c384 => ?_)
        · rw [if_pos c384] at h
          exact am_AW.weak (f_L_law_b1249_ok hd (ih) x3  h) (by simp only [am_le, and_self])
        · rw [if_neg c384] at h
          refine am_AW.run am_base_ok ok_L_law (Nat.le_add_left 1 d) 1 (pc1 := 1189) (ls1 := [some (.ref (am_rB + 1)), some (.ref 0), some (.ref 63), some (.int x3)]) (st1 := [.int (0 : Int32)]) (σ1 := (S0, q383.2)) rfl ?_
          obtain ⟨rfl, rfl⟩ := Prod.mk.inj (Option.some.inj h)
          exact am_AW.ret ok_L_law rfl rfl rfl (by decide)
      rw [if_neg c373] at h
      by_cases c385 : (((ro 1).2 x3.toNatClampNeg) &&& (63 : Int32)) = (34 : Int32)
      · rw [if_pos c385] at h
        refine am_AW.sw ok_L_law rfl (t := 1190) (by rw [c385]; decide +kernel) ?_
        refine am_AW.run am_base_ok ok_L_law (Nat.le_add_left 1 d) 5 (pc1 := 1195) (ls1 := [some (.ref (am_rB + 1)), some (.ref 0), some (.ref 63), some (.int x3)]) (st1 := [.int (x3 + (1 : Int32)), .ref (am_rB + 1), .ref 0]) (σ1 := (S0, m)) rfl ?_
        by_cases g386 : am_in (x3 + (1 : Int32)) (ro 1).1 = true
        rotate_left
        · rw [if_neg g386] at h
          cases h
        rw [if_pos g386] at h
        refine am_AW.rold ok_L_law (Nat.le_add_left 1 d) (j := 1) (by decide) rfl g386 ?_
        obtain ⟨q389, hq389, h⟩ := Option.bind_eq_some_iff.mp h
        refine am_AW.callV ok_L_law am_nw_ok (As := [.int ((ro 1).2 (x3 + (1 : Int32)).toNatClampNeg)]) (rest := []) rfl rfl rfl oR_C_trace lk_L_156 iM_C_trace sE_C_trace (qc := kq9) rfl rfl rfl rfl (Nat.le_of_ble_eq_true rfl) (f_C_trace_ok (d := d) (by omega) ((ro 1).2 (x3 + (1 : Int32)).toNatClampNeg) hq389) ?_
        change am_AW am_nw ro (d + 1) mr_L_law 1199 [some (.ref (am_rB + 1)), some (.ref 0), some (.ref 63), some (.int x3)] [.int q389.1] (S0, q389.2) (some (.int r)) (S0, m')
        refine am_AW.run am_base_ok ok_L_law (Nat.le_add_left 1 d) 5 (pc1 := 1204) (ls1 := [some (.ref (am_rB + 1)), some (.ref 0), some (.ref 63), some (.int x3)]) (st1 := [.int (x3 + (1 : Int32)), .ref (am_rB + 1), .ref 63, .int q389.1]) (σ1 := (S0, q389.2)) rfl ?_
        by_cases g390 : am_in (x3 + (1 : Int32)) (ro 1).1 = true
        rotate_left
        · rw [if_neg g390] at h
          cases h
        rw [if_pos g390] at h
        refine am_AW.rold ok_L_law (Nat.le_add_left 1 d) (j := 1) (by decide) rfl g390 ?_
        obtain ⟨q393, hq393, h⟩ := Option.bind_eq_some_iff.mp h
        refine am_AW.callV ok_L_law am_nw_ok (As := [.int ((ro 1).2 (x3 + (1 : Int32)).toNatClampNeg)]) (rest := [.int q389.1]) rfl rfl rfl oR_M_trace lk_L_159 iM_M_trace sE_M_trace (qc := kq10) rfl rfl rfl rfl (Nat.le_of_ble_eq_true rfl) (f_M_trace_ok (d := d) (by omega) ((ro 1).2 (x3 + (1 : Int32)).toNatClampNeg) hq393) ?_
        change am_AW am_nw ro (d + 1) mr_L_law 1208 [some (.ref (am_rB + 1)), some (.ref 0), some (.ref 63), some (.int x3)] [.int q393.1, .int q389.1] (S0, q393.2) (some (.int r)) (S0, m')
        refine am_AW.brP ok_L_law rfl rfl am_c_eq (fun c394 => ?_) (fun c394 => ?_)
        · rw [if_pos c394] at h
          exact am_AW.weak (f_L_law_b1249_ok hd (ih) x3  h) (by simp only [am_le, and_self])
        · rw [if_neg c394] at h
          refine am_AW.run am_base_ok ok_L_law (Nat.le_add_left 1 d) 1 (pc1 := 1212) (ls1 := [some (.ref (am_rB + 1)), some (.ref 0), some (.ref 63), some (.int x3)]) (st1 := [.int (0 : Int32)]) (σ1 := (S0, q393.2)) rfl ?_
          obtain ⟨rfl, rfl⟩ := Prod.mk.inj (Option.some.inj h)
          exact am_AW.ret ok_L_law rfl rfl rfl (by decide)
      rw [if_neg c385] at h
      by_cases c395 : (((ro 1).2 x3.toNatClampNeg) &&& (63 : Int32)) = (35 : Int32)
      · rw [if_pos c395] at h
        refine am_AW.sw ok_L_law rfl (t := 1213) (by rw [c395]; decide +kernel) ?_
        refine am_AW.run am_base_ok ok_L_law (Nat.le_add_left 1 d) 5 (pc1 := 1218) (ls1 := [some (.ref (am_rB + 1)), some (.ref 0), some (.ref 63), some (.int x3)]) (st1 := [.int (x3 + (1 : Int32)), .ref (am_rB + 1), .ref 0]) (σ1 := (S0, m)) rfl ?_
        by_cases g396 : am_in (x3 + (1 : Int32)) (ro 1).1 = true
        rotate_left
        · rw [if_neg g396] at h
          cases h
        rw [if_pos g396] at h
        refine am_AW.rold ok_L_law (Nat.le_add_left 1 d) (j := 1) (by decide) rfl g396 ?_
        obtain ⟨q399, hq399, h⟩ := Option.bind_eq_some_iff.mp h
        refine am_AW.callV ok_L_law am_nw_ok (As := [.int ((ro 1).2 (x3 + (1 : Int32)).toNatClampNeg)]) (rest := []) rfl rfl rfl oR_C_count lk_L_160 iM_C_count sE_C_count (qc := kq9) rfl rfl rfl rfl (Nat.le_of_ble_eq_true rfl) (f_C_count_ok (d := d) (by omega) ((ro 1).2 (x3 + (1 : Int32)).toNatClampNeg) hq399) ?_
        change am_AW am_nw ro (d + 1) mr_L_law 1222 [some (.ref (am_rB + 1)), some (.ref 0), some (.ref 63), some (.int x3)] [.int q399.1] (S0, q399.2) (some (.int r)) (S0, m')
        refine am_AW.run am_base_ok ok_L_law (Nat.le_add_left 1 d) 5 (pc1 := 1227) (ls1 := [some (.ref (am_rB + 1)), some (.ref 0), some (.ref 63), some (.int x3)]) (st1 := [.int (x3 + (1 : Int32)), .ref (am_rB + 1), .ref 63, .int q399.1]) (σ1 := (S0, q399.2)) rfl ?_
        by_cases g400 : am_in (x3 + (1 : Int32)) (ro 1).1 = true
        rotate_left
        · rw [if_neg g400] at h
          cases h
        rw [if_pos g400] at h
        refine am_AW.rold ok_L_law (Nat.le_add_left 1 d) (j := 1) (by decide) rfl g400 ?_
        obtain ⟨q403, hq403, h⟩ := Option.bind_eq_some_iff.mp h
        refine am_AW.callV ok_L_law am_nw_ok (As := [.int ((ro 1).2 (x3 + (1 : Int32)).toNatClampNeg)]) (rest := [.int q399.1]) rfl rfl rfl oR_M_count lk_L_163 iM_M_count sE_M_count (qc := kq10) rfl rfl rfl rfl (Nat.le_of_ble_eq_true rfl) (f_M_count_ok (d := d) (by omega) ((ro 1).2 (x3 + (1 : Int32)).toNatClampNeg) hq403) ?_
        change am_AW am_nw ro (d + 1) mr_L_law 1231 [some (.ref (am_rB + 1)), some (.ref 0), some (.ref 63), some (.int x3)] [.int q403.1, .int q399.1] (S0, q403.2) (some (.int r)) (S0, m')
        refine am_AW.brP ok_L_law rfl rfl am_c_eq (fun c404 => ?_) (fun c404 => ?_)
        · rw [if_pos c404] at h
          exact am_AW.weak (f_L_law_b1249_ok hd (ih) x3  h) (by simp only [am_le, and_self])
        · rw [if_neg c404] at h
          refine am_AW.run am_base_ok ok_L_law (Nat.le_add_left 1 d) 1 (pc1 := 1235) (ls1 := [some (.ref (am_rB + 1)), some (.ref 0), some (.ref 63), some (.int x3)]) (st1 := [.int (0 : Int32)]) (σ1 := (S0, q403.2)) rfl ?_
          obtain ⟨rfl, rfl⟩ := Prod.mk.inj (Option.some.inj h)
          exact am_AW.ret ok_L_law rfl rfl rfl (by decide)
      rw [if_neg c395] at h
      by_cases c405 : (((ro 1).2 x3.toNatClampNeg) &&& (63 : Int32)) = (36 : Int32)
      · rw [if_pos c405] at h
        refine am_AW.sw ok_L_law rfl (t := 1236) (by rw [c405]; decide +kernel) ?_
        refine am_AW.run am_base_ok ok_L_law (Nat.le_add_left 1 d) 1 (pc1 := 1237) (ls1 := [some (.ref (am_rB + 1)), some (.ref 0), some (.ref 63), some (.int x3)]) (st1 := [.ref 0]) (σ1 := (S0, m)) rfl ?_
        obtain ⟨q408, hq408, h⟩ := Option.bind_eq_some_iff.mp h
        refine am_AW.callV ok_L_law am_nw_ok (As := []) (rest := []) rfl rfl rfl oR_C_status lk_L_164 iM_C_status sE_C_status (qc := kq9) rfl rfl rfl rfl (Nat.le_of_ble_eq_true rfl) (f_C_status_ok (d := d) (by omega)  hq408) ?_
        change am_AW am_nw ro (d + 1) mr_L_law 1240 [some (.ref (am_rB + 1)), some (.ref 0), some (.ref 63), some (.int x3)] [.int q408.1] (S0, q408.2) (some (.int r)) (S0, m')
        refine am_AW.run am_base_ok ok_L_law (Nat.le_add_left 1 d) 1 (pc1 := 1241) (ls1 := [some (.ref (am_rB + 1)), some (.ref 0), some (.ref 63), some (.int x3)]) (st1 := [.ref 63, .int q408.1]) (σ1 := (S0, q408.2)) rfl ?_
        obtain ⟨q411, hq411, h⟩ := Option.bind_eq_some_iff.mp h
        refine am_AW.callV ok_L_law am_nw_ok (As := []) (rest := [.int q408.1]) rfl rfl rfl oR_M_status lk_L_167 iM_M_status sE_M_status (qc := kq10) rfl rfl rfl rfl (Nat.le_of_ble_eq_true rfl) (f_M_status_ok (d := d) (by omega)  hq411) ?_
        change am_AW am_nw ro (d + 1) mr_L_law 1244 [some (.ref (am_rB + 1)), some (.ref 0), some (.ref 63), some (.int x3)] [.int q411.1, .int q408.1] (S0, q411.2) (some (.int r)) (S0, m')
        refine am_AW.brP ok_L_law rfl rfl am_c_eq (fun c412 => ?_) (fun c412 => ?_)
        · rw [if_pos c412] at h
          exact am_AW.weak (f_L_law_b1249_ok hd (ih) x3  h) (by simp only [am_le, and_self])
        · rw [if_neg c412] at h
          refine am_AW.run am_base_ok ok_L_law (Nat.le_add_left 1 d) 1 (pc1 := 1248) (ls1 := [some (.ref (am_rB + 1)), some (.ref 0), some (.ref 63), some (.int x3)]) (st1 := [.int (0 : Int32)]) (σ1 := (S0, q411.2)) rfl ?_
          obtain ⟨rfl, rfl⟩ := Prod.mk.inj (Option.some.inj h)
          exact am_AW.ret ok_L_law rfl rfl rfl (by decide)
      rw [if_neg c405] at h
      have o413 : ((((ro 1).2 x3.toNatClampNeg) &&& (63 : Int32))).toInt < 0 ∨ 36 < ((((ro 1).2 x3.toNatClampNeg) &&& (63 : Int32))).toInt := by
        have := lv_neT c3 (a := 0) (by decide)
        have := lv_neT c17 (a := 1) (by decide)
        have := lv_neT c31 (a := 2) (by decide)
        have := lv_neT c49 (a := 3) (by decide)
        have := lv_neT c59 (a := 4) (by decide)
        have := lv_neT c69 (a := 5) (by decide)
        have := lv_neT c77 (a := 6) (by decide)
        have := lv_neT c85 (a := 7) (by decide)
        have := lv_neT c93 (a := 8) (by decide)
        have := lv_neT c105 (a := 9) (by decide)
        have := lv_neT c115 (a := 10) (by decide)
        have := lv_neT c125 (a := 11) (by decide)
        have := lv_neT c135 (a := 12) (by decide)
        have := lv_neT c143 (a := 13) (by decide)
        have := lv_neT c155 (a := 14) (by decide)
        have := lv_neT c167 (a := 15) (by decide)
        have := lv_neT c177 (a := 16) (by decide)
        have := lv_neT c189 (a := 17) (by decide)
        have := lv_neT c201 (a := 18) (by decide)
        have := lv_neT c213 (a := 19) (by decide)
        have := lv_neT c223 (a := 20) (by decide)
        have := lv_neT c233 (a := 21) (by decide)
        have := lv_neT c245 (a := 22) (by decide)
        have := lv_neT c253 (a := 23) (by decide)
        have := lv_neT c263 (a := 24) (by decide)
        have := lv_neT c273 (a := 25) (by decide)
        have := lv_neT c285 (a := 26) (by decide)
        have := lv_neT c303 (a := 27) (by decide)
        have := lv_neT c317 (a := 28) (by decide)
        have := lv_neT c331 (a := 29) (by decide)
        have := lv_neT c341 (a := 30) (by decide)
        have := lv_neT c351 (a := 31) (by decide)
        have := lv_neT c361 (a := 32) (by decide)
        have := lv_neT c373 (a := 33) (by decide)
        have := lv_neT c385 (a := 34) (by decide)
        have := lv_neT c395 (a := 35) (by decide)
        have := lv_neT c405 (a := 36) (by decide)
        omega
      refine am_AW.sw ok_L_law rfl (t := 1249) (by simp only [am_sw, if_pos o413]; decide +kernel) ?_
      exact am_AW.weak (f_L_law_b1249_ok hd (ih) x3  h) (by simp only [am_le, and_self])
set_option maxHeartbeats 8000000 in
set_option maxRecDepth 100000 in
theorem f_L_law_b18_ok {ro : am_Ro} {d : Nat} (hd : 11 ≤ d + 1) (x3 : Int32) {m m' : am_Mm} {r : Int32} {n : Nat} (h : f_L_law_b18 ro n x3 m = some (r, m')) : am_AW am_nw ro (d + 1) mr_L_law 18 [some (.ref (am_rB + 1)), some (.ref 0), some (.ref 63), some (.int x3)] [] (S0, m) (some (.int r)) (S0, m') :=
  f_L_law_b18_all hd n x3  m m' r h
