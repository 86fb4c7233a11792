/-! printed: the loop of the law -/
def law_law_l18 (Z : ak_Z) : Nat → Int32 → mm_M → Option ((Int32 × mm_M) ⊕ ((Unit) × mm_M))
  | 0, _, _ => none
  | n + 1, x3, M =>
    if ((Int32.ofNat Z.1) - (6 : Int32)) < x3 then
      some (.inr ((), M))
    else
      if ak_inb x3 Z.1 = true then
      if ((Z.2 x3.toNatClampNeg) &&& (31 : Int32)) = (0 : Int32) then
        if ak_inb (x3 + (1 : Int32)) Z.1 = true then
        if ak_inb (x3 + (2 : Int32)) Z.1 = true then
        if ak_inb (x3 + (3 : Int32)) Z.1 = true then
        (nb_set (Z.2 (x3 + (1 : Int32)).toNatClampNeg) (Z.2 (x3 + (2 : Int32)).toNatClampNeg) (Z.2 (x3 + (3 : Int32)).toNatClampNeg) M).bind fun y7 =>
        if ak_inb (x3 + (1 : Int32)) Z.1 = true then
        if ak_inb (x3 + (2 : Int32)) Z.1 = true then
        if ak_inb (x3 + (3 : Int32)) Z.1 = true then
        (md_set (Z.2 (x3 + (1 : Int32)).toNatClampNeg) (Z.2 (x3 + (2 : Int32)).toNatClampNeg) (Z.2 (x3 + (3 : Int32)).toNatClampNeg) y7.2).bind fun y11 =>
        if y7.1 = y11.1 then
          law_law_l18 Z n (x3 + (6 : Int32)) y11.2
        else
          some (.inl ((0 : Int32), y11.2)) else none else none else none else none else none else none
      else if ((Z.2 x3.toNatClampNeg) &&& (31 : Int32)) = (1 : Int32) then
          if ak_inb (x3 + (1 : Int32)) Z.1 = true then
          if ak_inb (x3 + (2 : Int32)) Z.1 = true then
          if ak_inb (x3 + (3 : Int32)) Z.1 = true then
          (nb_clerk (Z.2 (x3 + (1 : Int32)).toNatClampNeg) (Z.2 (x3 + (2 : Int32)).toNatClampNeg) (Z.2 (x3 + (3 : Int32)).toNatClampNeg) M).bind fun y17 =>
          if ak_inb (x3 + (1 : Int32)) Z.1 = true then
          if ak_inb (x3 + (2 : Int32)) Z.1 = true then
          if ak_inb (x3 + (3 : Int32)) Z.1 = true then
          (md_clerk (Z.2 (x3 + (1 : Int32)).toNatClampNeg) (Z.2 (x3 + (2 : Int32)).toNatClampNeg) (Z.2 (x3 + (3 : Int32)).toNatClampNeg) y17.2).bind fun y21 =>
          if y17.1 = y21.1 then
            law_law_l18 Z n (x3 + (6 : Int32)) y21.2
          else
            some (.inl ((0 : Int32), y21.2)) else none else none else none else none else none else none
        else if ((Z.2 x3.toNatClampNeg) &&& (31 : Int32)) = (2 : Int32) then
            if ak_inb (x3 + (1 : Int32)) Z.1 = true then
            if ak_inb (x3 + (2 : Int32)) Z.1 = true then
            if ak_inb (x3 + (3 : Int32)) Z.1 = true then
            (nb_apart (Z.2 (x3 + (1 : Int32)).toNatClampNeg) (Z.2 (x3 + (2 : Int32)).toNatClampNeg) (Z.2 (x3 + (3 : Int32)).toNatClampNeg) M).bind fun y27 =>
            if ak_inb (x3 + (1 : Int32)) Z.1 = true then
            if ak_inb (x3 + (2 : Int32)) Z.1 = true then
            if ak_inb (x3 + (3 : Int32)) Z.1 = true then
            (md_apart (Z.2 (x3 + (1 : Int32)).toNatClampNeg) (Z.2 (x3 + (2 : Int32)).toNatClampNeg) (Z.2 (x3 + (3 : Int32)).toNatClampNeg) y27.2).bind fun y31 =>
            if y27.1 = y31.1 then
              law_law_l18 Z n (x3 + (6 : Int32)) y31.2
            else
              some (.inl ((0 : Int32), y31.2)) else none else none else none else none else none else none
          else if ((Z.2 x3.toNatClampNeg) &&& (31 : Int32)) = (3 : Int32) then
              if ak_inb (x3 + (1 : Int32)) Z.1 = true then
              if ak_inb (x3 + (2 : Int32)) Z.1 = true then
              (nb_book (Z.2 (x3 + (1 : Int32)).toNatClampNeg) (Z.2 (x3 + (2 : Int32)).toNatClampNeg) M).bind fun y36 =>
              if ak_inb (x3 + (1 : Int32)) Z.1 = true then
              if ak_inb (x3 + (2 : Int32)) Z.1 = true then
              (md_book (Z.2 (x3 + (1 : Int32)).toNatClampNeg) (Z.2 (x3 + (2 : Int32)).toNatClampNeg) y36.2).bind fun y39 =>
              if y36.1 = y39.1 then
                law_law_l18 Z n (x3 + (6 : Int32)) y39.2
              else
                some (.inl ((0 : Int32), y39.2)) else none else none else none else none
            else if ((Z.2 x3.toNatClampNeg) &&& (31 : Int32)) = (4 : Int32) then
                if ak_inb (x3 + (1 : Int32)) Z.1 = true then
                if ak_inb (x3 + (2 : Int32)) Z.1 = true then
                (nb_told (Z.2 (x3 + (1 : Int32)).toNatClampNeg) (Z.2 (x3 + (2 : Int32)).toNatClampNeg) M).bind fun y44 =>
                if ak_inb (x3 + (1 : Int32)) Z.1 = true then
                if ak_inb (x3 + (2 : Int32)) Z.1 = true then
                (md_told (Z.2 (x3 + (1 : Int32)).toNatClampNeg) (Z.2 (x3 + (2 : Int32)).toNatClampNeg) y44.2).bind fun y47 =>
                if y44.1 = y47.1 then
                  law_law_l18 Z n (x3 + (6 : Int32)) y47.2
                else
                  some (.inl ((0 : Int32), y47.2)) else none else none else none else none
              else if ((Z.2 x3.toNatClampNeg) &&& (31 : Int32)) = (5 : Int32) then
                  if ak_inb (x3 + (1 : Int32)) Z.1 = true then
                  (nb_feed (Z.2 (x3 + (1 : Int32)).toNatClampNeg) M).bind fun y51 =>
                  if ak_inb (x3 + (1 : Int32)) Z.1 = true then
                  (md_feed (Z.2 (x3 + (1 : Int32)).toNatClampNeg) y51.2).bind fun y53 =>
                  if y51.1 = y53.1 then
                    law_law_l18 Z n (x3 + (6 : Int32)) y53.2
                  else
                    some (.inl ((0 : Int32), y53.2)) else none else none
                else if ((Z.2 x3.toNatClampNeg) &&& (31 : Int32)) = (6 : Int32) then
                    (nb_text M).bind fun y56 =>
                    (md_text y56.2).bind fun y57 =>
                    if y56.1 = y57.1 then
                      law_law_l18 Z n (x3 + (6 : Int32)) y57.2
                    else
                      some (.inl ((0 : Int32), y57.2))
                  else if ((Z.2 x3.toNatClampNeg) &&& (31 : Int32)) = (7 : Int32) then
                      if ak_inb (x3 + (1 : Int32)) Z.1 = true then
                      (nb_force (Z.2 (x3 + (1 : Int32)).toNatClampNeg) M).bind fun y61 =>
                      if ak_inb (x3 + (1 : Int32)) Z.1 = true then
                      (md_force (Z.2 (x3 + (1 : Int32)).toNatClampNeg) y61.2).bind fun y63 =>
                      if y61.1 = y63.1 then
                        law_law_l18 Z n (x3 + (6 : Int32)) y63.2
                      else
                        some (.inl ((0 : Int32), y63.2)) else none else none
                    else if ((Z.2 x3.toNatClampNeg) &&& (31 : Int32)) = (8 : Int32) then
                        if ak_inb (x3 + (1 : Int32)) Z.1 = true then
                        (nb_plan (Z.2 (x3 + (1 : Int32)).toNatClampNeg) M).bind fun y67 =>
                        if ak_inb (x3 + (1 : Int32)) Z.1 = true then
                        (md_plan (Z.2 (x3 + (1 : Int32)).toNatClampNeg) y67.2).bind fun y69 =>
                        if y67.1 = y69.1 then
                          law_law_l18 Z n (x3 + (6 : Int32)) y69.2
                        else
                          some (.inl ((0 : Int32), y69.2)) else none else none
                      else if ((Z.2 x3.toNatClampNeg) &&& (31 : Int32)) = (9 : Int32) then
                          (nb_year M).bind fun y72 =>
                          (md_year y72.2).bind fun y73 =>
                          if y72.1 = y73.1 then
                            law_law_l18 Z n (x3 + (6 : Int32)) y73.2
                          else
                            some (.inl ((0 : Int32), y73.2))
                        else if ((Z.2 x3.toNatClampNeg) &&& (31 : Int32)) = (10 : Int32) then
                            if ak_inb (x3 + (1 : Int32)) Z.1 = true then
                            (nb_best (Z.2 (x3 + (1 : Int32)).toNatClampNeg) M).bind fun y77 =>
                            if ak_inb (x3 + (1 : Int32)) Z.1 = true then
                            (md_best (Z.2 (x3 + (1 : Int32)).toNatClampNeg) y77.2).bind fun y79 =>
                            if y77.1 = y79.1 then
                              law_law_l18 Z n (x3 + (6 : Int32)) y79.2
                            else
                              some (.inl ((0 : Int32), y79.2)) else none else none
                          else if ((Z.2 x3.toNatClampNeg) &&& (31 : Int32)) = (11 : Int32) then
                              if ak_inb (x3 + (1 : Int32)) Z.1 = true then
                              (nb_inTurn (Z.2 (x3 + (1 : Int32)).toNatClampNeg) M).bind fun y83 =>
                              if ak_inb (x3 + (1 : Int32)) Z.1 = true then
                              (md_inTurn (Z.2 (x3 + (1 : Int32)).toNatClampNeg) y83.2).bind fun y85 =>
                              if y83.1 = y85.1 then
                                law_law_l18 Z n (x3 + (6 : Int32)) y85.2
                              else
                                some (.inl ((0 : Int32), y85.2)) else none else none
                            else if ((Z.2 x3.toNatClampNeg) &&& (31 : Int32)) = (12 : Int32) then
                                if ak_inb (x3 + (1 : Int32)) Z.1 = true then
                                (nb_change (Z.2 (x3 + (1 : Int32)).toNatClampNeg) M).bind fun y89 =>
                                if ak_inb (x3 + (1 : Int32)) Z.1 = true then
                                (md_change (Z.2 (x3 + (1 : Int32)).toNatClampNeg) y89.2).bind fun y91 =>
                                if y89.1 = y91.1 then
                                  law_law_l18 Z n (x3 + (6 : Int32)) y91.2
                                else
                                  some (.inl ((0 : Int32), y91.2)) else none else none
                              else if ((Z.2 x3.toNatClampNeg) &&& (31 : Int32)) = (13 : Int32) then
                                  if ak_inb (x3 + (1 : Int32)) Z.1 = true then
                                  if ak_inb (x3 + (2 : Int32)) Z.1 = true then
                                  (nb_bars (Z.2 (x3 + (1 : Int32)).toNatClampNeg) (Z.2 (x3 + (2 : Int32)).toNatClampNeg) M).bind fun y96 =>
                                  if ak_inb (x3 + (1 : Int32)) Z.1 = true then
                                  if ak_inb (x3 + (2 : Int32)) Z.1 = true then
                                  (md_bars (Z.2 (x3 + (1 : Int32)).toNatClampNeg) (Z.2 (x3 + (2 : Int32)).toNatClampNeg) y96.2).bind fun y99 =>
                                  if y96.1 = y99.1 then
                                    law_law_l18 Z n (x3 + (6 : Int32)) y99.2
                                  else
                                    some (.inl ((0 : Int32), y99.2)) else none else none else none else none
                                else if ((Z.2 x3.toNatClampNeg) &&& (31 : Int32)) = (14 : Int32) then
                                    (nb_settle M).bind fun y102 =>
                                    (md_settle y102.2).bind fun y103 =>
                                    if y102.1 = y103.1 then
                                      law_law_l18 Z n (x3 + (6 : Int32)) y103.2
                                    else
                                      some (.inl ((0 : Int32), y103.2))
                                  else if ((Z.2 x3.toNatClampNeg) &&& (31 : Int32)) = (15 : Int32) then
                                      if ak_inb (x3 + (1 : Int32)) Z.1 = true then
                                      if ak_inb (x3 + (2 : Int32)) Z.1 = true then
                                      if ak_inb (x3 + (3 : Int32)) Z.1 = true then
                                      (nb_tells (Z.2 (x3 + (1 : Int32)).toNatClampNeg) (Z.2 (x3 + (2 : Int32)).toNatClampNeg) (Z.2 (x3 + (3 : Int32)).toNatClampNeg) M).bind fun y109 =>
                                      if ak_inb (x3 + (1 : Int32)) Z.1 = true then
                                      if ak_inb (x3 + (2 : Int32)) Z.1 = true then
                                      if ak_inb (x3 + (3 : Int32)) Z.1 = true then
                                      (md_tells (Z.2 (x3 + (1 : Int32)).toNatClampNeg) (Z.2 (x3 + (2 : Int32)).toNatClampNeg) (Z.2 (x3 + (3 : Int32)).toNatClampNeg) y109.2).bind fun y113 =>
                                      if y109.1 = y113.1 then
                                        law_law_l18 Z n (x3 + (6 : Int32)) y113.2
                                      else
                                        some (.inl ((0 : Int32), y113.2)) else none else none else none else none else none else none
                                    else if ((Z.2 x3.toNatClampNeg) &&& (31 : Int32)) = (16 : Int32) then
                                        if ak_inb (x3 + (1 : Int32)) Z.1 = true then
                                        if ak_inb (x3 + (2 : Int32)) Z.1 = true then
                                        (nb_film (Z.2 (x3 + (1 : Int32)).toNatClampNeg) (Z.2 (x3 + (2 : Int32)).toNatClampNeg) M).bind fun y118 =>
                                        if ak_inb (x3 + (1 : Int32)) Z.1 = true then
                                        if ak_inb (x3 + (2 : Int32)) Z.1 = true then
                                        (md_film (Z.2 (x3 + (1 : Int32)).toNatClampNeg) (Z.2 (x3 + (2 : Int32)).toNatClampNeg) y118.2).bind fun y121 =>
                                        if y118.1 = y121.1 then
                                          law_law_l18 Z n (x3 + (6 : Int32)) y121.2
                                        else
                                          some (.inl ((0 : Int32), y121.2)) else none else none else none else none
                                      else if ((Z.2 x3.toNatClampNeg) &&& (31 : Int32)) = (17 : Int32) then
                                          if ak_inb (x3 + (1 : Int32)) Z.1 = true then
                                          (nb_drawn (Z.2 (x3 + (1 : Int32)).toNatClampNeg) M).bind fun y125 =>
                                          if ak_inb (x3 + (1 : Int32)) Z.1 = true then
                                          (md_drawn (Z.2 (x3 + (1 : Int32)).toNatClampNeg) y125.2).bind fun y127 =>
                                          if y125.1 = y127.1 then
                                            law_law_l18 Z n (x3 + (6 : Int32)) y127.2
                                          else
                                            some (.inl ((0 : Int32), y127.2)) else none else none
                                        else if ((Z.2 x3.toNatClampNeg) &&& (31 : Int32)) = (18 : Int32) then
                                            if ak_inb (x3 + (1 : Int32)) Z.1 = true then
                                            if ak_inb (x3 + (2 : Int32)) Z.1 = true then
                                            if ak_inb (x3 + (3 : Int32)) Z.1 = true then
                                            (nb_chance (Z.2 (x3 + (1 : Int32)).toNatClampNeg) (Z.2 (x3 + (2 : Int32)).toNatClampNeg) (Z.2 (x3 + (3 : Int32)).toNatClampNeg) M).bind fun y133 =>
                                            if ak_inb (x3 + (1 : Int32)) Z.1 = true then
                                            if ak_inb (x3 + (2 : Int32)) Z.1 = true then
                                            if ak_inb (x3 + (3 : Int32)) Z.1 = true then
                                            (md_chance (Z.2 (x3 + (1 : Int32)).toNatClampNeg) (Z.2 (x3 + (2 : Int32)).toNatClampNeg) (Z.2 (x3 + (3 : Int32)).toNatClampNeg) y133.2).bind fun y137 =>
                                            if (lg_cmp y133.1 y137.1) = (0 : Int32) then
                                              law_law_l18 Z n (x3 + (6 : Int32)) y137.2
                                            else
                                              some (.inl ((0 : Int32), y137.2)) else none else none else none else none else none else none
                                          else if ((Z.2 x3.toNatClampNeg) &&& (31 : Int32)) = (19 : Int32) then
                                              (nb_image M).bind fun y140 =>
                                              (md_image y140.2).bind fun y141 =>
                                              if y140.1 = y141.1 then
                                                law_law_l18 Z n (x3 + (6 : Int32)) y141.2
                                              else
                                                some (.inl ((0 : Int32), y141.2))
                                            else if ((Z.2 x3.toNatClampNeg) &&& (31 : Int32)) = (20 : Int32) then
                                                (nb_back M).bind fun y144 =>
                                                (md_back y144.2).bind fun y145 =>
                                                if y144.1 = y145.1 then
                                                  law_law_l18 Z n (x3 + (6 : Int32)) y145.2
                                                else
                                                  some (.inl ((0 : Int32), y145.2))
                                              else if ((Z.2 x3.toNatClampNeg) &&& (31 : Int32)) = (21 : Int32) then
                                                  if ak_inb (x3 + (1 : Int32)) Z.1 = true then
                                                  (nb_count (Z.2 (x3 + (1 : Int32)).toNatClampNeg) M).bind fun y149 =>
                                                  if ak_inb (x3 + (1 : Int32)) Z.1 = true then
                                                  (md_count (Z.2 (x3 + (1 : Int32)).toNatClampNeg) y149.2).bind fun y151 =>
                                                  if y149.1 = y151.1 then
                                                    law_law_l18 Z n (x3 + (6 : Int32)) y151.2
                                                  else
                                                    some (.inl ((0 : Int32), y151.2)) else none else none
                                                else if ((Z.2 x3.toNatClampNeg) &&& (31 : Int32)) = (22 : Int32) then
                                                    if ak_inb (x3 + (1 : Int32)) Z.1 = true then
                                                    if ak_inb (x3 + (2 : Int32)) Z.1 = true then
                                                    if ak_inb (x3 + (3 : Int32)) Z.1 = true then
                                                    (nb_sheet (Z.2 (x3 + (1 : Int32)).toNatClampNeg) (Z.2 (x3 + (2 : Int32)).toNatClampNeg) (Z.2 (x3 + (3 : Int32)).toNatClampNeg) M).bind fun y157 =>
                                                    if ak_inb (x3 + (1 : Int32)) Z.1 = true then
                                                    if ak_inb (x3 + (2 : Int32)) Z.1 = true then
                                                    if ak_inb (x3 + (3 : Int32)) Z.1 = true then
                                                    (md_sheet (Z.2 (x3 + (1 : Int32)).toNatClampNeg) (Z.2 (x3 + (2 : Int32)).toNatClampNeg) (Z.2 (x3 + (3 : Int32)).toNatClampNeg) y157.2).bind fun y161 =>
                                                    if y157.1 = y161.1 then
                                                      law_law_l18 Z n (x3 + (6 : Int32)) y161.2
                                                    else
                                                      some (.inl ((0 : Int32), y161.2)) else none else none else none else none else none else none
                                                  else if ((Z.2 x3.toNatClampNeg) &&& (31 : Int32)) = (23 : Int32) then
                                                      if ak_inb (x3 + (1 : Int32)) Z.1 = true then
                                                      if ak_inb (x3 + (2 : Int32)) Z.1 = true then
                                                      if ak_inb (x3 + (3 : Int32)) Z.1 = true then
                                                      (nb_cell (Z.2 (x3 + (1 : Int32)).toNatClampNeg) (Z.2 (x3 + (2 : Int32)).toNatClampNeg) (Z.2 (x3 + (3 : Int32)).toNatClampNeg) M).bind fun y167 =>
                                                      if ak_inb (x3 + (1 : Int32)) Z.1 = true then
                                                      if ak_inb (x3 + (2 : Int32)) Z.1 = true then
                                                      if ak_inb (x3 + (3 : Int32)) Z.1 = true then
                                                      (md_cell (Z.2 (x3 + (1 : Int32)).toNatClampNeg) (Z.2 (x3 + (2 : Int32)).toNatClampNeg) (Z.2 (x3 + (3 : Int32)).toNatClampNeg) y167.2).bind fun y171 =>
                                                      if y167.1 = y171.1 then
                                                        law_law_l18 Z n (x3 + (6 : Int32)) y171.2
                                                      else
                                                        some (.inl ((0 : Int32), y171.2)) else none else none else none else none else none else none
                                                    else if ((Z.2 x3.toNatClampNeg) &&& (31 : Int32)) = (24 : Int32) then
                                                        if ak_inb (x3 + (1 : Int32)) Z.1 = true then
                                                        if ak_inb (x3 + (2 : Int32)) Z.1 = true then
                                                        if ak_inb (x3 + (3 : Int32)) Z.1 = true then
                                                        if ak_inb (x3 + (4 : Int32)) Z.1 = true then
                                                        if ak_inb (x3 + (5 : Int32)) Z.1 = true then
                                                        (nb_copy (Z.2 (x3 + (1 : Int32)).toNatClampNeg) (Z.2 (x3 + (2 : Int32)).toNatClampNeg) (Z.2 (x3 + (3 : Int32)).toNatClampNeg) (Z.2 (x3 + (4 : Int32)).toNatClampNeg) (Z.2 (x3 + (5 : Int32)).toNatClampNeg) M).bind fun y179 =>
                                                        if ak_inb (x3 + (1 : Int32)) Z.1 = true then
                                                        if ak_inb (x3 + (2 : Int32)) Z.1 = true then
                                                        if ak_inb (x3 + (3 : Int32)) Z.1 = true then
                                                        if ak_inb (x3 + (4 : Int32)) Z.1 = true then
                                                        if ak_inb (x3 + (5 : Int32)) Z.1 = true then
                                                        (md_copy (Z.2 (x3 + (1 : Int32)).toNatClampNeg) (Z.2 (x3 + (2 : Int32)).toNatClampNeg) (Z.2 (x3 + (3 : Int32)).toNatClampNeg) (Z.2 (x3 + (4 : Int32)).toNatClampNeg) (Z.2 (x3 + (5 : Int32)).toNatClampNeg) y179.2).bind fun y185 =>
                                                        if y179.1 = y185.1 then
                                                          law_law_l18 Z n (x3 + (6 : Int32)) y185.2
                                                        else
                                                          some (.inl ((0 : Int32), y185.2)) else none else none else none else none else none else none else none else none else none else none
                                                      else if ((Z.2 x3.toNatClampNeg) &&& (31 : Int32)) = (25 : Int32) then
                                                          if ak_inb (x3 + (1 : Int32)) Z.1 = true then
                                                          if ak_inb (x3 + (2 : Int32)) Z.1 = true then
                                                          if ak_inb (x3 + (3 : Int32)) Z.1 = true then
                                                          if ak_inb (x3 + (4 : Int32)) Z.1 = true then
                                                          (nb_clerks (Z.2 (x3 + (1 : Int32)).toNatClampNeg) (Z.2 (x3 + (2 : Int32)).toNatClampNeg) (Z.2 (x3 + (3 : Int32)).toNatClampNeg) (Z.2 (x3 + (4 : Int32)).toNatClampNeg) M).bind fun y192 =>
                                                          if ak_inb (x3 + (1 : Int32)) Z.1 = true then
                                                          if ak_inb (x3 + (2 : Int32)) Z.1 = true then
                                                          if ak_inb (x3 + (3 : Int32)) Z.1 = true then
                                                          if ak_inb (x3 + (4 : Int32)) Z.1 = true then
                                                          (md_clerks (Z.2 (x3 + (1 : Int32)).toNatClampNeg) (Z.2 (x3 + (2 : Int32)).toNatClampNeg) (Z.2 (x3 + (3 : Int32)).toNatClampNeg) (Z.2 (x3 + (4 : Int32)).toNatClampNeg) y192.2).bind fun y197 =>
                                                          if y192.1 = y197.1 then
                                                            law_law_l18 Z n (x3 + (6 : Int32)) y197.2
                                                          else
                                                            some (.inl ((0 : Int32), y197.2)) else none else none else none else none else none else none else none else none
                                                        else if ((Z.2 x3.toNatClampNeg) &&& (31 : Int32)) = (26 : Int32) then
                                                            if ak_inb (x3 + (1 : Int32)) Z.1 = true then
                                                            if ak_inb (x3 + (2 : Int32)) Z.1 = true then
                                                            (nb_taken (Z.2 (x3 + (1 : Int32)).toNatClampNeg) (Z.2 (x3 + (2 : Int32)).toNatClampNeg) M).bind fun y202 =>
                                                            if ak_inb (x3 + (1 : Int32)) Z.1 = true then
                                                            if ak_inb (x3 + (2 : Int32)) Z.1 = true then
                                                            (md_taken (Z.2 (x3 + (1 : Int32)).toNatClampNeg) (Z.2 (x3 + (2 : Int32)).toNatClampNeg) y202.2).bind fun y205 =>
                                                            if y202.1 = y205.1 then
                                                              law_law_l18 Z n (x3 + (6 : Int32)) y205.2
                                                            else
                                                              some (.inl ((0 : Int32), y205.2)) else none else none else none else none
                                                          else law_law_l18 Z n (x3 + (6 : Int32)) M else none
set_option maxRecDepth 20000 in
set_option maxHeartbeats 4000000 in
theorem lc_245_18 {Z : ak_Z} {d : Nat} : ∀ (n : Nat) (x3 : Int32) (M : mm_M) {y : (Int32 × mm_M) ⊕ ((Unit) × mm_M)} (Q : Option Value → ak_H → Prop), law_law_l18 Z n x3 M = some y → (match y with | .inl yr => Q (some (.int yr.1)) (mm_H yr.2) | .inr yv => Ev Z (d + 73) 245 994 [none, none, none, none] [] (mm_H yv.2) Q) → Ev Z (d + 73) 245 18 [some (.ref 4000000), some (.ref 0), some (.ref 73), some (.int x3)] [] (mm_H M) Q := by
  intro n
  induction n with
  | zero => intro x3 M y Q hf; cases hf
  | succ n ih =>
    intro x3 M y Q hf hq
    rw [law_law_l18] at hf
    refine e_iload_n hm_245 rfl rfl ?_
    refine e_aload_n hm_245 rfl rfl ?_
    refine e_slen hm_245 rfl rfl rfl rfl ?_
    refine e_bipush hm_245 rfl kc_bipush_6 ?_
    refine e_isub hm_245 rfl ?_
    by_cases hc1 : ((Int32.ofNat Z.1) - (6 : Int32)) < x3
    · rw [if_pos hc1] at hf
      refine e_ic_t (t := 994) hm_245 rfl (ct_gt hc1) rfl ?_
      obtain rfl := Option.some.inj hf
      exact e_forget (L' := [none, none, none, none]) (lf_d (lf_d (lf_d (lf_d lf_0)))) hq
    · rw [if_neg hc1] at hf
      refine e_ic_f hm_245 rfl (cf_gt hc1) ?_
      refine e_aload_n hm_245 rfl rfl ?_
      refine e_iload_n hm_245 rfl rfl ?_
      obtain ⟨hi2, hf⟩ := mm_ite hf
      refine e_siald hm_245 rfl rfl rfl hi2 ?_
      refine e_bipush hm_245 rfl kc_bipush_31 ?_
      refine e_iand hm_245 rfl ?_
      by_cases hc3 : ((Z.2 x3.toNatClampNeg) &&& (31 : Int32)) = (0 : Int32)
      · rw [if_pos hc3] at hf
        refine e_tsw (t := 156) hm_245 rfl (by rw [hc3]; rfl) ?_
        refine e_aload_n hm_245 rfl rfl ?_
        refine e_aload_n hm_245 rfl rfl ?_
        refine e_iload_n hm_245 rfl rfl ?_
        refine e_iconst hm_245 rfl kc_iconst_1 ?_
        refine e_iadd hm_245 rfl ?_
        obtain ⟨hi4, hf⟩ := mm_ite hf
        refine e_siald hm_245 rfl rfl rfl hi4 ?_
        refine e_aload_n hm_245 rfl rfl ?_
        refine e_iload_n hm_245 rfl rfl ?_
        refine e_iconst hm_245 rfl kc_iconst_2 ?_
        refine e_iadd hm_245 rfl ?_
        obtain ⟨hi5, hf⟩ := mm_ite hf
        refine e_siald hm_245 rfl rfl rfl hi5 ?_
        refine e_aload_n hm_245 rfl rfl ?_
        refine e_iload_n hm_245 rfl rfl ?_
        refine e_iconst hm_245 rfl kc_iconst_3 ?_
        refine e_iadd hm_245 rfl ?_
        obtain ⟨hi6, hf⟩ := mm_ite hf
        refine e_siald hm_245 rfl rfl rfl hi6 ?_
        obtain ⟨y7, hky7, hf⟩ := mm_bd hf
        refine e_virt hm_245 rfl rfl rfl rfl (Nat.le_of_ble_eq_true rfl) hm_14 rfl rfl (c_14 (Z.2 (x3 + (1 : Int32)).toNatClampNeg) (Z.2 (x3 + (2 : Int32)).toNatClampNeg) (Z.2 (x3 + (3 : Int32)).toNatClampNeg) M hky7 ?_)
        show Ev Z _ 245 175 [some (.ref 4000000), some (.ref 0), some (.ref 73), some (.int x3)] [.int y7.1] (mm_H y7.2) Q
        refine e_aload_n hm_245 rfl rfl ?_
        refine e_aload_n hm_245 rfl rfl ?_
        refine e_iload_n hm_245 rfl rfl ?_
        refine e_iconst hm_245 rfl kc_iconst_1 ?_
        refine e_iadd hm_245 rfl ?_
        obtain ⟨hi8, hf⟩ := mm_ite hf
        refine e_siald hm_245 rfl rfl rfl hi8 ?_
        refine e_aload_n hm_245 rfl rfl ?_
        refine e_iload_n hm_245 rfl rfl ?_
        refine e_iconst hm_245 rfl kc_iconst_2 ?_
        refine e_iadd hm_245 rfl ?_
        obtain ⟨hi9, hf⟩ := mm_ite hf
        refine e_siald hm_245 rfl rfl rfl hi9 ?_
        refine e_aload_n hm_245 rfl rfl ?_
        refine e_iload_n hm_245 rfl rfl ?_
        refine e_iconst hm_245 rfl kc_iconst_3 ?_
        refine e_iadd hm_245 rfl ?_
        obtain ⟨hi10, hf⟩ := mm_ite hf
        refine e_siald hm_245 rfl rfl rfl hi10 ?_
        obtain ⟨y11, hky11, hf⟩ := mm_bd hf
        refine e_virt hm_245 rfl rfl rfl rfl (Nat.le_of_ble_eq_true rfl) hm_168 rfl rfl (c_168 (Z.2 (x3 + (1 : Int32)).toNatClampNeg) (Z.2 (x3 + (2 : Int32)).toNatClampNeg) (Z.2 (x3 + (3 : Int32)).toNatClampNeg) y7.2 hky11 ?_)
        show Ev Z _ 245 194 [some (.ref 4000000), some (.ref 0), some (.ref 73), some (.int x3)] [.int y11.1, .int y7.1] (mm_H y11.2) Q
        by_cases hc12 : y7.1 = y11.1
        · rw [if_pos hc12] at hf
          refine e_ic_t (t := 988) hm_245 rfl (ct_eq hc12) rfl ?_
          refine e_iinc (L2 := [some (.ref 4000000), some (.ref 0), some (.ref 73), some (.int (x3 + (6 : Int32)))]) hm_245 rfl kc_iinc_6 rfl rfl ?_
          refine e_goto (t := 18) hm_245 rfl rfl ?_
          exact e_forget (L' := [some (.ref 4000000), some (.ref 0), some (.ref 73), some (.int (x3 + (6 : Int32)))]) (lf_k (lf_k (lf_k (lf_k lf_0)))) (ih (x3 + (6 : Int32)) y11.2 Q hf hq)
        · rw [if_neg hc12] at hf
          refine e_ic_f hm_245 rfl (cf_eq hc12) ?_
          refine e_iconst hm_245 rfl kc_iconst_0 ?_
          obtain rfl := Option.some.inj hf
          exact e_zret hm_245 rfl rfl (by decide) hq
      · rw [if_neg hc3] at hf
        by_cases hc13 : ((Z.2 x3.toNatClampNeg) &&& (31 : Int32)) = (1 : Int32)
        · rw [if_pos hc13] at hf
          refine e_tsw (t := 199) hm_245 rfl (by rw [hc13]; rfl) ?_
          refine e_aload_n hm_245 rfl rfl ?_
          refine e_aload_n hm_245 rfl rfl ?_
          refine e_iload_n hm_245 rfl rfl ?_
          refine e_iconst hm_245 rfl kc_iconst_1 ?_
          refine e_iadd hm_245 rfl ?_
          obtain ⟨hi14, hf⟩ := mm_ite hf
          refine e_siald hm_245 rfl rfl rfl hi14 ?_
          refine e_aload_n hm_245 rfl rfl ?_
          refine e_iload_n hm_245 rfl rfl ?_
          refine e_iconst hm_245 rfl kc_iconst_2 ?_
          refine e_iadd hm_245 rfl ?_
          obtain ⟨hi15, hf⟩ := mm_ite hf
          refine e_siald hm_245 rfl rfl rfl hi15 ?_
          refine e_aload_n hm_245 rfl rfl ?_
          refine e_iload_n hm_245 rfl rfl ?_
          refine e_iconst hm_245 rfl kc_iconst_3 ?_
          refine e_iadd hm_245 rfl ?_
          obtain ⟨hi16, hf⟩ := mm_ite hf
          refine e_siald hm_245 rfl rfl rfl hi16 ?_
          obtain ⟨y17, hky17, hf⟩ := mm_bd hf
          refine e_virt hm_245 rfl rfl rfl rfl (Nat.le_of_ble_eq_true rfl) hm_21 rfl rfl (c_21 (Z.2 (x3 + (1 : Int32)).toNatClampNeg) (Z.2 (x3 + (2 : Int32)).toNatClampNeg) (Z.2 (x3 + (3 : Int32)).toNatClampNeg) M hky17 ?_)
          show Ev Z _ 245 218 [some (.ref 4000000), some (.ref 0), some (.ref 73), some (.int x3)] [.int y17.1] (mm_H y17.2) Q
          refine e_aload_n hm_245 rfl rfl ?_
          refine e_aload_n hm_245 rfl rfl ?_
          refine e_iload_n hm_245 rfl rfl ?_
          refine e_iconst hm_245 rfl kc_iconst_1 ?_
          refine e_iadd hm_245 rfl ?_
          obtain ⟨hi18, hf⟩ := mm_ite hf
          refine e_siald hm_245 rfl rfl rfl hi18 ?_
          refine e_aload_n hm_245 rfl rfl ?_
          refine e_iload_n hm_245 rfl rfl ?_
          refine e_iconst hm_245 rfl kc_iconst_2 ?_
          refine e_iadd hm_245 rfl ?_
          obtain ⟨hi19, hf⟩ := mm_ite hf
          refine e_siald hm_245 rfl rfl rfl hi19 ?_
          refine e_aload_n hm_245 rfl rfl ?_
          refine e_iload_n hm_245 rfl rfl ?_
          refine e_iconst hm_245 rfl kc_iconst_3 ?_
          refine e_iadd hm_245 rfl ?_
          obtain ⟨hi20, hf⟩ := mm_ite hf
          refine e_siald hm_245 rfl rfl rfl hi20 ?_
          obtain ⟨y21, hky21, hf⟩ := mm_bd hf
          refine e_virt hm_245 rfl rfl rfl rfl (Nat.le_of_ble_eq_true rfl) hm_198 rfl rfl (c_198 (Z.2 (x3 + (1 : Int32)).toNatClampNeg) (Z.2 (x3 + (2 : Int32)).toNatClampNeg) (Z.2 (x3 + (3 : Int32)).toNatClampNeg) y17.2 hky21 ?_)
          show Ev Z _ 245 237 [some (.ref 4000000), some (.ref 0), some (.ref 73), some (.int x3)] [.int y21.1, .int y17.1] (mm_H y21.2) Q
          by_cases hc22 : y17.1 = y21.1
          · rw [if_pos hc22] at hf
            refine e_ic_t (t := 988) hm_245 rfl (ct_eq hc22) rfl ?_
            refine e_iinc (L2 := [some (.ref 4000000), some (.ref 0), some (.ref 73), some (.int (x3 + (6 : Int32)))]) hm_245 rfl kc_iinc_6 rfl rfl ?_
            refine e_goto (t := 18) hm_245 rfl rfl ?_
            exact e_forget (L' := [some (.ref 4000000), some (.ref 0), some (.ref 73), some (.int (x3 + (6 : Int32)))]) (lf_k (lf_k (lf_k (lf_k lf_0)))) (ih (x3 + (6 : Int32)) y21.2 Q hf hq)
          · rw [if_neg hc22] at hf
            refine e_ic_f hm_245 rfl (cf_eq hc22) ?_
            refine e_iconst hm_245 rfl kc_iconst_0 ?_
            obtain rfl := Option.some.inj hf
            exact e_zret hm_245 rfl rfl (by decide) hq
        · rw [if_neg hc13] at hf
          by_cases hc23 : ((Z.2 x3.toNatClampNeg) &&& (31 : Int32)) = (2 : Int32)
          · rw [if_pos hc23] at hf
            refine e_tsw (t := 242) hm_245 rfl (by rw [hc23]; rfl) ?_
            refine e_aload_n hm_245 rfl rfl ?_
            refine e_aload_n hm_245 rfl rfl ?_
            refine e_iload_n hm_245 rfl rfl ?_
            refine e_iconst hm_245 rfl kc_iconst_1 ?_
            refine e_iadd hm_245 rfl ?_
            obtain ⟨hi24, hf⟩ := mm_ite hf
            refine e_siald hm_245 rfl rfl rfl hi24 ?_
            refine e_aload_n hm_245 rfl rfl ?_
            refine e_iload_n hm_245 rfl rfl ?_
            refine e_iconst hm_245 rfl kc_iconst_2 ?_
            refine e_iadd hm_245 rfl ?_
            obtain ⟨hi25, hf⟩ := mm_ite hf
            refine e_siald hm_245 rfl rfl rfl hi25 ?_
            refine e_aload_n hm_245 rfl rfl ?_
            refine e_iload_n hm_245 rfl rfl ?_
            refine e_iconst hm_245 rfl kc_iconst_3 ?_
            refine e_iadd hm_245 rfl ?_
            obtain ⟨hi26, hf⟩ := mm_ite hf
            refine e_siald hm_245 rfl rfl rfl hi26 ?_
            obtain ⟨y27, hky27, hf⟩ := mm_bd hf
            refine e_virt hm_245 rfl rfl rfl rfl (Nat.le_of_ble_eq_true rfl) hm_24 rfl rfl (c_24 (Z.2 (x3 + (1 : Int32)).toNatClampNeg) (Z.2 (x3 + (2 : Int32)).toNatClampNeg) (Z.2 (x3 + (3 : Int32)).toNatClampNeg) M hky27 ?_)
            show Ev Z _ 245 261 [some (.ref 4000000), some (.ref 0), some (.ref 73), some (.int x3)] [.int y27.1] (mm_H y27.2) Q
            refine e_aload_n hm_245 rfl rfl ?_
            refine e_aload_n hm_245 rfl rfl ?_
            refine e_iload_n hm_245 rfl rfl ?_
            refine e_iconst hm_245 rfl kc_iconst_1 ?_
            refine e_iadd hm_245 rfl ?_
            obtain ⟨hi28, hf⟩ := mm_ite hf
            refine e_siald hm_245 rfl rfl rfl hi28 ?_
            refine e_aload_n hm_245 rfl rfl ?_
            refine e_iload_n hm_245 rfl rfl ?_
            refine e_iconst hm_245 rfl kc_iconst_2 ?_
            refine e_iadd hm_245 rfl ?_
            obtain ⟨hi29, hf⟩ := mm_ite hf
            refine e_siald hm_245 rfl rfl rfl hi29 ?_
            refine e_aload_n hm_245 rfl rfl ?_
            refine e_iload_n hm_245 rfl rfl ?_
            refine e_iconst hm_245 rfl kc_iconst_3 ?_
            refine e_iadd hm_245 rfl ?_
            obtain ⟨hi30, hf⟩ := mm_ite hf
            refine e_siald hm_245 rfl rfl rfl hi30 ?_
            obtain ⟨y31, hky31, hf⟩ := mm_bd hf
            refine e_virt hm_245 rfl rfl rfl rfl (Nat.le_of_ble_eq_true rfl) hm_200 rfl rfl (c_200 (Z.2 (x3 + (1 : Int32)).toNatClampNeg) (Z.2 (x3 + (2 : Int32)).toNatClampNeg) (Z.2 (x3 + (3 : Int32)).toNatClampNeg) y27.2 hky31 ?_)
            show Ev Z _ 245 280 [some (.ref 4000000), some (.ref 0), some (.ref 73), some (.int x3)] [.int y31.1, .int y27.1] (mm_H y31.2) Q
            by_cases hc32 : y27.1 = y31.1
            · rw [if_pos hc32] at hf
              refine e_ic_t (t := 988) hm_245 rfl (ct_eq hc32) rfl ?_
              refine e_iinc (L2 := [some (.ref 4000000), some (.ref 0), some (.ref 73), some (.int (x3 + (6 : Int32)))]) hm_245 rfl kc_iinc_6 rfl rfl ?_
              refine e_goto (t := 18) hm_245 rfl rfl ?_
              exact e_forget (L' := [some (.ref 4000000), some (.ref 0), some (.ref 73), some (.int (x3 + (6 : Int32)))]) (lf_k (lf_k (lf_k (lf_k lf_0)))) (ih (x3 + (6 : Int32)) y31.2 Q hf hq)
            · rw [if_neg hc32] at hf
              refine e_ic_f hm_245 rfl (cf_eq hc32) ?_
              refine e_iconst hm_245 rfl kc_iconst_0 ?_
              obtain rfl := Option.some.inj hf
              exact e_zret hm_245 rfl rfl (by decide) hq
          · rw [if_neg hc23] at hf
            by_cases hc33 : ((Z.2 x3.toNatClampNeg) &&& (31 : Int32)) = (3 : Int32)
            · rw [if_pos hc33] at hf
              refine e_tsw (t := 285) hm_245 rfl (by rw [hc33]; rfl) ?_
              refine e_aload_n hm_245 rfl rfl ?_
              refine e_aload_n hm_245 rfl rfl ?_
              refine e_iload_n hm_245 rfl rfl ?_
              refine e_iconst hm_245 rfl kc_iconst_1 ?_
              refine e_iadd hm_245 rfl ?_
              obtain ⟨hi34, hf⟩ := mm_ite hf
              refine e_siald hm_245 rfl rfl rfl hi34 ?_
              refine e_aload_n hm_245 rfl rfl ?_
              refine e_iload_n hm_245 rfl rfl ?_
              refine e_iconst hm_245 rfl kc_iconst_2 ?_
              refine e_iadd hm_245 rfl ?_
              obtain ⟨hi35, hf⟩ := mm_ite hf
              refine e_siald hm_245 rfl rfl rfl hi35 ?_
              obtain ⟨y36, hky36, hf⟩ := mm_bd hf
              refine e_virt hm_245 rfl rfl rfl rfl (Nat.le_of_ble_eq_true rfl) hm_25 rfl rfl (c_25 (Z.2 (x3 + (1 : Int32)).toNatClampNeg) (Z.2 (x3 + (2 : Int32)).toNatClampNeg) M hky36 ?_)
              show Ev Z _ 245 299 [some (.ref 4000000), some (.ref 0), some (.ref 73), some (.int x3)] [.int y36.1] (mm_H y36.2) Q
              refine e_aload_n hm_245 rfl rfl ?_
              refine e_aload_n hm_245 rfl rfl ?_
              refine e_iload_n hm_245 rfl rfl ?_
              refine e_iconst hm_245 rfl kc_iconst_1 ?_
              refine e_iadd hm_245 rfl ?_
              obtain ⟨hi37, hf⟩ := mm_ite hf
              refine e_siald hm_245 rfl rfl rfl hi37 ?_
              refine e_aload_n hm_245 rfl rfl ?_
              refine e_iload_n hm_245 rfl rfl ?_
              refine e_iconst hm_245 rfl kc_iconst_2 ?_
              refine e_iadd hm_245 rfl ?_
              obtain ⟨hi38, hf⟩ := mm_ite hf
              refine e_siald hm_245 rfl rfl rfl hi38 ?_
              obtain ⟨y39, hky39, hf⟩ := mm_bd hf
              refine e_virt hm_245 rfl rfl rfl rfl (Nat.le_of_ble_eq_true rfl) hm_201 rfl rfl (c_201 (Z.2 (x3 + (1 : Int32)).toNatClampNeg) (Z.2 (x3 + (2 : Int32)).toNatClampNeg) y36.2 hky39 ?_)
              show Ev Z _ 245 313 [some (.ref 4000000), some (.ref 0), some (.ref 73), some (.int x3)] [.int y39.1, .int y36.1] (mm_H y39.2) Q
              by_cases hc40 : y36.1 = y39.1
              · rw [if_pos hc40] at hf
                refine e_ic_t (t := 988) hm_245 rfl (ct_eq hc40) rfl ?_
                refine e_iinc (L2 := [some (.ref 4000000), some (.ref 0), some (.ref 73), some (.int (x3 + (6 : Int32)))]) hm_245 rfl kc_iinc_6 rfl rfl ?_
                refine e_goto (t := 18) hm_245 rfl rfl ?_
                exact e_forget (L' := [some (.ref 4000000), some (.ref 0), some (.ref 73), some (.int (x3 + (6 : Int32)))]) (lf_k (lf_k (lf_k (lf_k lf_0)))) (ih (x3 + (6 : Int32)) y39.2 Q hf hq)
              · rw [if_neg hc40] at hf
                refine e_ic_f hm_245 rfl (cf_eq hc40) ?_
                refine e_iconst hm_245 rfl kc_iconst_0 ?_
                obtain rfl := Option.some.inj hf
                exact e_zret hm_245 rfl rfl (by decide) hq
            · rw [if_neg hc33] at hf
              by_cases hc41 : ((Z.2 x3.toNatClampNeg) &&& (31 : Int32)) = (4 : Int32)
              · rw [if_pos hc41] at hf
                refine e_tsw (t := 318) hm_245 rfl (by rw [hc41]; rfl) ?_
                refine e_aload_n hm_245 rfl rfl ?_
                refine e_aload_n hm_245 rfl rfl ?_
                refine e_iload_n hm_245 rfl rfl ?_
                refine e_iconst hm_245 rfl kc_iconst_1 ?_
                refine e_iadd hm_245 rfl ?_
                obtain ⟨hi42, hf⟩ := mm_ite hf
                refine e_siald hm_245 rfl rfl rfl hi42 ?_
                refine e_aload_n hm_245 rfl rfl ?_
                refine e_iload_n hm_245 rfl rfl ?_
                refine e_iconst hm_245 rfl kc_iconst_2 ?_
                refine e_iadd hm_245 rfl ?_
                obtain ⟨hi43, hf⟩ := mm_ite hf
                refine e_siald hm_245 rfl rfl rfl hi43 ?_
                obtain ⟨y44, hky44, hf⟩ := mm_bd hf
                refine e_virt hm_245 rfl rfl rfl rfl (Nat.le_of_ble_eq_true rfl) hm_46 rfl rfl (c_46 (Z.2 (x3 + (1 : Int32)).toNatClampNeg) (Z.2 (x3 + (2 : Int32)).toNatClampNeg) M hky44 ?_)
                show Ev Z _ 245 332 [some (.ref 4000000), some (.ref 0), some (.ref 73), some (.int x3)] [.int y44.1] (mm_H y44.2) Q
                refine e_aload_n hm_245 rfl rfl ?_
                refine e_aload_n hm_245 rfl rfl ?_
                refine e_iload_n hm_245 rfl rfl ?_
                refine e_iconst hm_245 rfl kc_iconst_1 ?_
                refine e_iadd hm_245 rfl ?_
                obtain ⟨hi45, hf⟩ := mm_ite hf
                refine e_siald hm_245 rfl rfl rfl hi45 ?_
                refine e_aload_n hm_245 rfl rfl ?_
                refine e_iload_n hm_245 rfl rfl ?_
                refine e_iconst hm_245 rfl kc_iconst_2 ?_
                refine e_iadd hm_245 rfl ?_
                obtain ⟨hi46, hf⟩ := mm_ite hf
                refine e_siald hm_245 rfl rfl rfl hi46 ?_
                obtain ⟨y47, hky47, hf⟩ := mm_bd hf
                refine e_virt hm_245 rfl rfl rfl rfl (Nat.le_of_ble_eq_true rfl) hm_172 rfl rfl (c_172 (Z.2 (x3 + (1 : Int32)).toNatClampNeg) (Z.2 (x3 + (2 : Int32)).toNatClampNeg) y44.2 hky47 ?_)
                show Ev Z _ 245 346 [some (.ref 4000000), some (.ref 0), some (.ref 73), some (.int x3)] [.int y47.1, .int y44.1] (mm_H y47.2) Q
                by_cases hc48 : y44.1 = y47.1
                · rw [if_pos hc48] at hf
                  refine e_ic_t (t := 988) hm_245 rfl (ct_eq hc48) rfl ?_
                  refine e_iinc (L2 := [some (.ref 4000000), some (.ref 0), some (.ref 73), some (.int (x3 + (6 : Int32)))]) hm_245 rfl kc_iinc_6 rfl rfl ?_
                  refine e_goto (t := 18) hm_245 rfl rfl ?_
                  exact e_forget (L' := [some (.ref 4000000), some (.ref 0), some (.ref 73), some (.int (x3 + (6 : Int32)))]) (lf_k (lf_k (lf_k (lf_k lf_0)))) (ih (x3 + (6 : Int32)) y47.2 Q hf hq)
                · rw [if_neg hc48] at hf
                  refine e_ic_f hm_245 rfl (cf_eq hc48) ?_
                  refine e_iconst hm_245 rfl kc_iconst_0 ?_
                  obtain rfl := Option.some.inj hf
                  exact e_zret hm_245 rfl rfl (by decide) hq
              · rw [if_neg hc41] at hf
                by_cases hc49 : ((Z.2 x3.toNatClampNeg) &&& (31 : Int32)) = (5 : Int32)
                · rw [if_pos hc49] at hf
                  refine e_tsw (t := 351) hm_245 rfl (by rw [hc49]; rfl) ?_
                  refine e_aload_n hm_245 rfl rfl ?_
                  refine e_aload_n hm_245 rfl rfl ?_
                  refine e_iload_n hm_245 rfl rfl ?_
                  refine e_iconst hm_245 rfl kc_iconst_1 ?_
                  refine e_iadd hm_245 rfl ?_
                  obtain ⟨hi50, hf⟩ := mm_ite hf
                  refine e_siald hm_245 rfl rfl rfl hi50 ?_
                  obtain ⟨y51, hky51, hf⟩ := mm_bd hf
                  refine e_virt hm_245 rfl rfl rfl rfl (Nat.le_of_ble_eq_true rfl) hm_62 rfl rfl (c_62 (Z.2 (x3 + (1 : Int32)).toNatClampNeg) M hky51 ?_)
                  show Ev Z _ 245 360 [some (.ref 4000000), some (.ref 0), some (.ref 73), some (.int x3)] [.int y51.1] (mm_H y51.2) Q
                  refine e_aload_n hm_245 rfl rfl ?_
                  refine e_aload_n hm_245 rfl rfl ?_
                  refine e_iload_n hm_245 rfl rfl ?_
                  refine e_iconst hm_245 rfl kc_iconst_1 ?_
                  refine e_iadd hm_245 rfl ?_
                  obtain ⟨hi52, hf⟩ := mm_ite hf
                  refine e_siald hm_245 rfl rfl rfl hi52 ?_
                  obtain ⟨y53, hky53, hf⟩ := mm_bd hf
                  refine e_virt hm_245 rfl rfl rfl rfl (Nat.le_of_ble_eq_true rfl) hm_204 rfl rfl (c_204 (Z.2 (x3 + (1 : Int32)).toNatClampNeg) y51.2 hky53 ?_)
                  show Ev Z _ 245 369 [some (.ref 4000000), some (.ref 0), some (.ref 73), some (.int x3)] [.int y53.1, .int y51.1] (mm_H y53.2) Q
                  by_cases hc54 : y51.1 = y53.1
                  · rw [if_pos hc54] at hf
                    refine e_ic_t (t := 988) hm_245 rfl (ct_eq hc54) rfl ?_
                    refine e_iinc (L2 := [some (.ref 4000000), some (.ref 0), some (.ref 73), some (.int (x3 + (6 : Int32)))]) hm_245 rfl kc_iinc_6 rfl rfl ?_
                    refine e_goto (t := 18) hm_245 rfl rfl ?_
                    exact e_forget (L' := [some (.ref 4000000), some (.ref 0), some (.ref 73), some (.int (x3 + (6 : Int32)))]) (lf_k (lf_k (lf_k (lf_k lf_0)))) (ih (x3 + (6 : Int32)) y53.2 Q hf hq)
                  · rw [if_neg hc54] at hf
                    refine e_ic_f hm_245 rfl (cf_eq hc54) ?_
                    refine e_iconst hm_245 rfl kc_iconst_0 ?_
                    obtain rfl := Option.some.inj hf
                    exact e_zret hm_245 rfl rfl (by decide) hq
                · rw [if_neg hc49] at hf
                  by_cases hc55 : ((Z.2 x3.toNatClampNeg) &&& (31 : Int32)) = (6 : Int32)
                  · rw [if_pos hc55] at hf
                    refine e_tsw (t := 374) hm_245 rfl (by rw [hc55]; rfl) ?_
                    refine e_aload_n hm_245 rfl rfl ?_
                    obtain ⟨y56, hky56, hf⟩ := mm_bd hf
                    refine e_virt hm_245 rfl rfl rfl rfl (Nat.le_of_ble_eq_true rfl) hm_63 rfl rfl (c_63 M hky56 ?_)
                    show Ev Z _ 245 378 [some (.ref 4000000), some (.ref 0), some (.ref 73), some (.int x3)] [.int y56.1] (mm_H y56.2) Q
                    refine e_aload_n hm_245 rfl rfl ?_
                    obtain ⟨y57, hky57, hf⟩ := mm_bd hf
                    refine e_virt hm_245 rfl rfl rfl rfl (Nat.le_of_ble_eq_true rfl) hm_205 rfl rfl (c_205 y56.2 hky57 ?_)
                    show Ev Z _ 245 382 [some (.ref 4000000), some (.ref 0), some (.ref 73), some (.int x3)] [.int y57.1, .int y56.1] (mm_H y57.2) Q
                    by_cases hc58 : y56.1 = y57.1
                    · rw [if_pos hc58] at hf
                      refine e_ic_t (t := 988) hm_245 rfl (ct_eq hc58) rfl ?_
                      refine e_iinc (L2 := [some (.ref 4000000), some (.ref 0), some (.ref 73), some (.int (x3 + (6 : Int32)))]) hm_245 rfl kc_iinc_6 rfl rfl ?_
                      refine e_goto (t := 18) hm_245 rfl rfl ?_
                      exact e_forget (L' := [some (.ref 4000000), some (.ref 0), some (.ref 73), some (.int (x3 + (6 : Int32)))]) (lf_k (lf_k (lf_k (lf_k lf_0)))) (ih (x3 + (6 : Int32)) y57.2 Q hf hq)
                    · rw [if_neg hc58] at hf
                      refine e_ic_f hm_245 rfl (cf_eq hc58) ?_
                      refine e_iconst hm_245 rfl kc_iconst_0 ?_
                      obtain rfl := Option.some.inj hf
                      exact e_zret hm_245 rfl rfl (by decide) hq
                  · rw [if_neg hc55] at hf
                    by_cases hc59 : ((Z.2 x3.toNatClampNeg) &&& (31 : Int32)) = (7 : Int32)
                    · rw [if_pos hc59] at hf
                      refine e_tsw (t := 387) hm_245 rfl (by rw [hc59]; rfl) ?_
                      refine e_aload_n hm_245 rfl rfl ?_
                      refine e_aload_n hm_245 rfl rfl ?_
                      refine e_iload_n hm_245 rfl rfl ?_
                      refine e_iconst hm_245 rfl kc_iconst_1 ?_
                      refine e_iadd hm_245 rfl ?_
                      obtain ⟨hi60, hf⟩ := mm_ite hf
                      refine e_siald hm_245 rfl rfl rfl hi60 ?_
                      obtain ⟨y61, hky61, hf⟩ := mm_bd hf
                      refine e_virt hm_245 rfl rfl rfl rfl (Nat.le_of_ble_eq_true rfl) hm_97 rfl rfl (c_97 (Z.2 (x3 + (1 : Int32)).toNatClampNeg) M hky61 ?_)
                      show Ev Z _ 245 396 [some (.ref 4000000), some (.ref 0), some (.ref 73), some (.int x3)] [.int y61.1] (mm_H y61.2) Q
                      refine e_aload_n hm_245 rfl rfl ?_
                      refine e_aload_n hm_245 rfl rfl ?_
                      refine e_iload_n hm_245 rfl rfl ?_
                      refine e_iconst hm_245 rfl kc_iconst_1 ?_
                      refine e_iadd hm_245 rfl ?_
                      obtain ⟨hi62, hf⟩ := mm_ite hf
                      refine e_siald hm_245 rfl rfl rfl hi62 ?_
                      obtain ⟨y63, hky63, hf⟩ := mm_bd hf
                      refine e_virt hm_245 rfl rfl rfl rfl (Nat.le_of_ble_eq_true rfl) hm_206 rfl rfl (c_206 (Z.2 (x3 + (1 : Int32)).toNatClampNeg) y61.2 hky63 ?_)
                      show Ev Z _ 245 405 [some (.ref 4000000), some (.ref 0), some (.ref 73), some (.int x3)] [.int y63.1, .int y61.1] (mm_H y63.2) Q
                      by_cases hc64 : y61.1 = y63.1
                      · rw [if_pos hc64] at hf
                        refine e_ic_t (t := 988) hm_245 rfl (ct_eq hc64) rfl ?_
                        refine e_iinc (L2 := [some (.ref 4000000), some (.ref 0), some (.ref 73), some (.int (x3 + (6 : Int32)))]) hm_245 rfl kc_iinc_6 rfl rfl ?_
                        refine e_goto (t := 18) hm_245 rfl rfl ?_
                        exact e_forget (L' := [some (.ref 4000000), some (.ref 0), some (.ref 73), some (.int (x3 + (6 : Int32)))]) (lf_k (lf_k (lf_k (lf_k lf_0)))) (ih (x3 + (6 : Int32)) y63.2 Q hf hq)
                      · rw [if_neg hc64] at hf
                        refine e_ic_f hm_245 rfl (cf_eq hc64) ?_
                        refine e_iconst hm_245 rfl kc_iconst_0 ?_
                        obtain rfl := Option.some.inj hf
                        exact e_zret hm_245 rfl rfl (by decide) hq
                    · rw [if_neg hc59] at hf
                      by_cases hc65 : ((Z.2 x3.toNatClampNeg) &&& (31 : Int32)) = (8 : Int32)
                      · rw [if_pos hc65] at hf
                        refine e_tsw (t := 410) hm_245 rfl (by rw [hc65]; rfl) ?_
                        refine e_aload_n hm_245 rfl rfl ?_
                        refine e_aload_n hm_245 rfl rfl ?_
                        refine e_iload_n hm_245 rfl rfl ?_
                        refine e_iconst hm_245 rfl kc_iconst_1 ?_
                        refine e_iadd hm_245 rfl ?_
                        obtain ⟨hi66, hf⟩ := mm_ite hf
                        refine e_siald hm_245 rfl rfl rfl hi66 ?_
                        obtain ⟨y67, hky67, hf⟩ := mm_bd hf
                        refine e_virt hm_245 rfl rfl rfl rfl (Nat.le_of_ble_eq_true rfl) hm_98 rfl rfl (c_98 (Z.2 (x3 + (1 : Int32)).toNatClampNeg) M hky67 ?_)
                        show Ev Z _ 245 419 [some (.ref 4000000), some (.ref 0), some (.ref 73), some (.int x3)] [.int y67.1] (mm_H y67.2) Q
                        refine e_aload_n hm_245 rfl rfl ?_
                        refine e_aload_n hm_245 rfl rfl ?_
                        refine e_iload_n hm_245 rfl rfl ?_
                        refine e_iconst hm_245 rfl kc_iconst_1 ?_
                        refine e_iadd hm_245 rfl ?_
                        obtain ⟨hi68, hf⟩ := mm_ite hf
                        refine e_siald hm_245 rfl rfl rfl hi68 ?_
                        obtain ⟨y69, hky69, hf⟩ := mm_bd hf
                        refine e_virt hm_245 rfl rfl rfl rfl (Nat.le_of_ble_eq_true rfl) hm_207 rfl rfl (c_207 (Z.2 (x3 + (1 : Int32)).toNatClampNeg) y67.2 hky69 ?_)
                        show Ev Z _ 245 428 [some (.ref 4000000), some (.ref 0), some (.ref 73), some (.int x3)] [.int y69.1, .int y67.1] (mm_H y69.2) Q
                        by_cases hc70 : y67.1 = y69.1
                        · rw [if_pos hc70] at hf
                          refine e_ic_t (t := 988) hm_245 rfl (ct_eq hc70) rfl ?_
                          refine e_iinc (L2 := [some (.ref 4000000), some (.ref 0), some (.ref 73), some (.int (x3 + (6 : Int32)))]) hm_245 rfl kc_iinc_6 rfl rfl ?_
                          refine e_goto (t := 18) hm_245 rfl rfl ?_
                          exact e_forget (L' := [some (.ref 4000000), some (.ref 0), some (.ref 73), some (.int (x3 + (6 : Int32)))]) (lf_k (lf_k (lf_k (lf_k lf_0)))) (ih (x3 + (6 : Int32)) y69.2 Q hf hq)
                        · rw [if_neg hc70] at hf
                          refine e_ic_f hm_245 rfl (cf_eq hc70) ?_
                          refine e_iconst hm_245 rfl kc_iconst_0 ?_
                          obtain rfl := Option.some.inj hf
                          exact e_zret hm_245 rfl rfl (by decide) hq
                      · rw [if_neg hc65] at hf
                        by_cases hc71 : ((Z.2 x3.toNatClampNeg) &&& (31 : Int32)) = (9 : Int32)
                        · rw [if_pos hc71] at hf
                          refine e_tsw (t := 433) hm_245 rfl (by rw [hc71]; rfl) ?_
                          refine e_aload_n hm_245 rfl rfl ?_
                          obtain ⟨y72, hky72, hf⟩ := mm_bd hf
                          refine e_virt hm_245 rfl rfl rfl rfl (Nat.le_of_ble_eq_true rfl) hm_110 rfl rfl (c_110 M hky72 ?_)
                          show Ev Z _ 245 437 [some (.ref 4000000), some (.ref 0), some (.ref 73), some (.int x3)] [.int y72.1] (mm_H y72.2) Q
                          refine e_aload_n hm_245 rfl rfl ?_
                          obtain ⟨y73, hky73, hf⟩ := mm_bd hf
                          refine e_virt hm_245 rfl rfl rfl rfl (Nat.le_of_ble_eq_true rfl) hm_216 rfl rfl (c_216 y72.2 hky73 ?_)
                          show Ev Z _ 245 441 [some (.ref 4000000), some (.ref 0), some (.ref 73), some (.int x3)] [.int y73.1, .int y72.1] (mm_H y73.2) Q
                          by_cases hc74 : y72.1 = y73.1
                          · rw [if_pos hc74] at hf
                            refine e_ic_t (t := 988) hm_245 rfl (ct_eq hc74) rfl ?_
                            refine e_iinc (L2 := [some (.ref 4000000), some (.ref 0), some (.ref 73), some (.int (x3 + (6 : Int32)))]) hm_245 rfl kc_iinc_6 rfl rfl ?_
                            refine e_goto (t := 18) hm_245 rfl rfl ?_
                            exact e_forget (L' := [some (.ref 4000000), some (.ref 0), some (.ref 73), some (.int (x3 + (6 : Int32)))]) (lf_k (lf_k (lf_k (lf_k lf_0)))) (ih (x3 + (6 : Int32)) y73.2 Q hf hq)
                          · rw [if_neg hc74] at hf
                            refine e_ic_f hm_245 rfl (cf_eq hc74) ?_
                            refine e_iconst hm_245 rfl kc_iconst_0 ?_
                            obtain rfl := Option.some.inj hf
                            exact e_zret hm_245 rfl rfl (by decide) hq
                        · rw [if_neg hc71] at hf
                          by_cases hc75 : ((Z.2 x3.toNatClampNeg) &&& (31 : Int32)) = (10 : Int32)
                          · rw [if_pos hc75] at hf
                            refine e_tsw (t := 446) hm_245 rfl (by rw [hc75]; rfl) ?_
                            refine e_aload_n hm_245 rfl rfl ?_
                            refine e_aload_n hm_245 rfl rfl ?_
                            refine e_iload_n hm_245 rfl rfl ?_
                            refine e_iconst hm_245 rfl kc_iconst_1 ?_
                            refine e_iadd hm_245 rfl ?_
                            obtain ⟨hi76, hf⟩ := mm_ite hf
                            refine e_siald hm_245 rfl rfl rfl hi76 ?_
                            obtain ⟨y77, hky77, hf⟩ := mm_bd hf
                            refine e_virt hm_245 rfl rfl rfl rfl (Nat.le_of_ble_eq_true rfl) hm_112 rfl rfl (c_112 (Z.2 (x3 + (1 : Int32)).toNatClampNeg) M hky77 ?_)
                            show Ev Z _ 245 455 [some (.ref 4000000), some (.ref 0), some (.ref 73), some (.int x3)] [.int y77.1] (mm_H y77.2) Q
                            refine e_aload_n hm_245 rfl rfl ?_
                            refine e_aload_n hm_245 rfl rfl ?_
                            refine e_iload_n hm_245 rfl rfl ?_
                            refine e_iconst hm_245 rfl kc_iconst_1 ?_
                            refine e_iadd hm_245 rfl ?_
                            obtain ⟨hi78, hf⟩ := mm_ite hf
                            refine e_siald hm_245 rfl rfl rfl hi78 ?_
                            obtain ⟨y79, hky79, hf⟩ := mm_bd hf
                            refine e_virt hm_245 rfl rfl rfl rfl (Nat.le_of_ble_eq_true rfl) hm_217 rfl rfl (c_217 (Z.2 (x3 + (1 : Int32)).toNatClampNeg) y77.2 hky79 ?_)
                            show Ev Z _ 245 464 [some (.ref 4000000), some (.ref 0), some (.ref 73), some (.int x3)] [.int y79.1, .int y77.1] (mm_H y79.2) Q
                            by_cases hc80 : y77.1 = y79.1
                            · rw [if_pos hc80] at hf
                              refine e_ic_t (t := 988) hm_245 rfl (ct_eq hc80) rfl ?_
                              refine e_iinc (L2 := [some (.ref 4000000), some (.ref 0), some (.ref 73), some (.int (x3 + (6 : Int32)))]) hm_245 rfl kc_iinc_6 rfl rfl ?_
                              refine e_goto (t := 18) hm_245 rfl rfl ?_
                              exact e_forget (L' := [some (.ref 4000000), some (.ref 0), some (.ref 73), some (.int (x3 + (6 : Int32)))]) (lf_k (lf_k (lf_k (lf_k lf_0)))) (ih (x3 + (6 : Int32)) y79.2 Q hf hq)
                            · rw [if_neg hc80] at hf
                              refine e_ic_f hm_245 rfl (cf_eq hc80) ?_
                              refine e_iconst hm_245 rfl kc_iconst_0 ?_
                              obtain rfl := Option.some.inj hf
                              exact e_zret hm_245 rfl rfl (by decide) hq
                          · rw [if_neg hc75] at hf
                            by_cases hc81 : ((Z.2 x3.toNatClampNeg) &&& (31 : Int32)) = (11 : Int32)
                            · rw [if_pos hc81] at hf
                              refine e_tsw (t := 469) hm_245 rfl (by rw [hc81]; rfl) ?_
                              refine e_aload_n hm_245 rfl rfl ?_
                              refine e_aload_n hm_245 rfl rfl ?_
                              refine e_iload_n hm_245 rfl rfl ?_
                              refine e_iconst hm_245 rfl kc_iconst_1 ?_
                              refine e_iadd hm_245 rfl ?_
                              obtain ⟨hi82, hf⟩ := mm_ite hf
                              refine e_siald hm_245 rfl rfl rfl hi82 ?_
                              obtain ⟨y83, hky83, hf⟩ := mm_bd hf
                              refine e_virt hm_245 rfl rfl rfl rfl (Nat.le_of_ble_eq_true rfl) hm_122 rfl rfl (c_122 (Z.2 (x3 + (1 : Int32)).toNatClampNeg) M hky83 ?_)
                              show Ev Z _ 245 478 [some (.ref 4000000), some (.ref 0), some (.ref 73), some (.int x3)] [.int y83.1] (mm_H y83.2) Q
                              refine e_aload_n hm_245 rfl rfl ?_
                              refine e_aload_n hm_245 rfl rfl ?_
                              refine e_iload_n hm_245 rfl rfl ?_
                              refine e_iconst hm_245 rfl kc_iconst_1 ?_
                              refine e_iadd hm_245 rfl ?_
                              obtain ⟨hi84, hf⟩ := mm_ite hf
                              refine e_siald hm_245 rfl rfl rfl hi84 ?_
                              obtain ⟨y85, hky85, hf⟩ := mm_bd hf
                              refine e_virt hm_245 rfl rfl rfl rfl (Nat.le_of_ble_eq_true rfl) hm_221 rfl rfl (c_221 (Z.2 (x3 + (1 : Int32)).toNatClampNeg) y83.2 hky85 ?_)
                              show Ev Z _ 245 487 [some (.ref 4000000), some (.ref 0), some (.ref 73), some (.int x3)] [.int y85.1, .int y83.1] (mm_H y85.2) Q
                              by_cases hc86 : y83.1 = y85.1
                              · rw [if_pos hc86] at hf
                                refine e_ic_t (t := 988) hm_245 rfl (ct_eq hc86) rfl ?_
                                refine e_iinc (L2 := [some (.ref 4000000), some (.ref 0), some (.ref 73), some (.int (x3 + (6 : Int32)))]) hm_245 rfl kc_iinc_6 rfl rfl ?_
                                refine e_goto (t := 18) hm_245 rfl rfl ?_
                                exact e_forget (L' := [some (.ref 4000000), some (.ref 0), some (.ref 73), some (.int (x3 + (6 : Int32)))]) (lf_k (lf_k (lf_k (lf_k lf_0)))) (ih (x3 + (6 : Int32)) y85.2 Q hf hq)
                              · rw [if_neg hc86] at hf
                                refine e_ic_f hm_245 rfl (cf_eq hc86) ?_
                                refine e_iconst hm_245 rfl kc_iconst_0 ?_
                                obtain rfl := Option.some.inj hf
                                exact e_zret hm_245 rfl rfl (by decide) hq
                            · rw [if_neg hc81] at hf
                              by_cases hc87 : ((Z.2 x3.toNatClampNeg) &&& (31 : Int32)) = (12 : Int32)
                              · rw [if_pos hc87] at hf
                                refine e_tsw (t := 492) hm_245 rfl (by rw [hc87]; rfl) ?_
                                refine e_aload_n hm_245 rfl rfl ?_
                                refine e_aload_n hm_245 rfl rfl ?_
                                refine e_iload_n hm_245 rfl rfl ?_
                                refine e_iconst hm_245 rfl kc_iconst_1 ?_
                                refine e_iadd hm_245 rfl ?_
                                obtain ⟨hi88, hf⟩ := mm_ite hf
                                refine e_siald hm_245 rfl rfl rfl hi88 ?_
                                obtain ⟨y89, hky89, hf⟩ := mm_bd hf
                                refine e_virt hm_245 rfl rfl rfl rfl (Nat.le_of_ble_eq_true rfl) hm_127 rfl rfl (c_127 (Z.2 (x3 + (1 : Int32)).toNatClampNeg) M hky89 ?_)
                                show Ev Z _ 245 501 [some (.ref 4000000), some (.ref 0), some (.ref 73), some (.int x3)] [.int y89.1] (mm_H y89.2) Q
                                refine e_aload_n hm_245 rfl rfl ?_
                                refine e_aload_n hm_245 rfl rfl ?_
                                refine e_iload_n hm_245 rfl rfl ?_
                                refine e_iconst hm_245 rfl kc_iconst_1 ?_
                                refine e_iadd hm_245 rfl ?_
                                obtain ⟨hi90, hf⟩ := mm_ite hf
                                refine e_siald hm_245 rfl rfl rfl hi90 ?_
                                obtain ⟨y91, hky91, hf⟩ := mm_bd hf
                                refine e_virt hm_245 rfl rfl rfl rfl (Nat.le_of_ble_eq_true rfl) hm_227 rfl rfl (c_227 (Z.2 (x3 + (1 : Int32)).toNatClampNeg) y89.2 hky91 ?_)
                                show Ev Z _ 245 510 [some (.ref 4000000), some (.ref 0), some (.ref 73), some (.int x3)] [.int y91.1, .int y89.1] (mm_H y91.2) Q
                                by_cases hc92 : y89.1 = y91.1
                                · rw [if_pos hc92] at hf
                                  refine e_ic_t (t := 988) hm_245 rfl (ct_eq hc92) rfl ?_
                                  refine e_iinc (L2 := [some (.ref 4000000), some (.ref 0), some (.ref 73), some (.int (x3 + (6 : Int32)))]) hm_245 rfl kc_iinc_6 rfl rfl ?_
                                  refine e_goto (t := 18) hm_245 rfl rfl ?_
                                  exact e_forget (L' := [some (.ref 4000000), some (.ref 0), some (.ref 73), some (.int (x3 + (6 : Int32)))]) (lf_k (lf_k (lf_k (lf_k lf_0)))) (ih (x3 + (6 : Int32)) y91.2 Q hf hq)
                                · rw [if_neg hc92] at hf
                                  refine e_ic_f hm_245 rfl (cf_eq hc92) ?_
                                  refine e_iconst hm_245 rfl kc_iconst_0 ?_
                                  obtain rfl := Option.some.inj hf
                                  exact e_zret hm_245 rfl rfl (by decide) hq
                              · rw [if_neg hc87] at hf
                                by_cases hc93 : ((Z.2 x3.toNatClampNeg) &&& (31 : Int32)) = (13 : Int32)
                                · rw [if_pos hc93] at hf
                                  refine e_tsw (t := 515) hm_245 rfl (by rw [hc93]; rfl) ?_
                                  refine e_aload_n hm_245 rfl rfl ?_
                                  refine e_aload_n hm_245 rfl rfl ?_
                                  refine e_iload_n hm_245 rfl rfl ?_
                                  refine e_iconst hm_245 rfl kc_iconst_1 ?_
                                  refine e_iadd hm_245 rfl ?_
                                  obtain ⟨hi94, hf⟩ := mm_ite hf
                                  refine e_siald hm_245 rfl rfl rfl hi94 ?_
                                  refine e_aload_n hm_245 rfl rfl ?_
                                  refine e_iload_n hm_245 rfl rfl ?_
                                  refine e_iconst hm_245 rfl kc_iconst_2 ?_
                                  refine e_iadd hm_245 rfl ?_
                                  obtain ⟨hi95, hf⟩ := mm_ite hf
                                  refine e_siald hm_245 rfl rfl rfl hi95 ?_
                                  obtain ⟨y96, hky96, hf⟩ := mm_bd hf
                                  refine e_virt hm_245 rfl rfl rfl rfl (Nat.le_of_ble_eq_true rfl) hm_130 rfl rfl (c_130 (Z.2 (x3 + (1 : Int32)).toNatClampNeg) (Z.2 (x3 + (2 : Int32)).toNatClampNeg) M hky96 ?_)
                                  show Ev Z _ 245 529 [some (.ref 4000000), some (.ref 0), some (.ref 73), some (.int x3)] [.int y96.1] (mm_H y96.2) Q
                                  refine e_aload_n hm_245 rfl rfl ?_
                                  refine e_aload_n hm_245 rfl rfl ?_
                                  refine e_iload_n hm_245 rfl rfl ?_
                                  refine e_iconst hm_245 rfl kc_iconst_1 ?_
                                  refine e_iadd hm_245 rfl ?_
                                  obtain ⟨hi97, hf⟩ := mm_ite hf
                                  refine e_siald hm_245 rfl rfl rfl hi97 ?_
                                  refine e_aload_n hm_245 rfl rfl ?_
                                  refine e_iload_n hm_245 rfl rfl ?_
                                  refine e_iconst hm_245 rfl kc_iconst_2 ?_
                                  refine e_iadd hm_245 rfl ?_
                                  obtain ⟨hi98, hf⟩ := mm_ite hf
                                  refine e_siald hm_245 rfl rfl rfl hi98 ?_
                                  obtain ⟨y99, hky99, hf⟩ := mm_bd hf
                                  refine e_virt hm_245 rfl rfl rfl rfl (Nat.le_of_ble_eq_true rfl) hm_228 rfl rfl (c_228 (Z.2 (x3 + (1 : Int32)).toNatClampNeg) (Z.2 (x3 + (2 : Int32)).toNatClampNeg) y96.2 hky99 ?_)
                                  show Ev Z _ 245 543 [some (.ref 4000000), some (.ref 0), some (.ref 73), some (.int x3)] [.int y99.1, .int y96.1] (mm_H y99.2) Q
                                  by_cases hc100 : y96.1 = y99.1
                                  · rw [if_pos hc100] at hf
                                    refine e_ic_t (t := 988) hm_245 rfl (ct_eq hc100) rfl ?_
                                    refine e_iinc (L2 := [some (.ref 4000000), some (.ref 0), some (.ref 73), some (.int (x3 + (6 : Int32)))]) hm_245 rfl kc_iinc_6 rfl rfl ?_
                                    refine e_goto (t := 18) hm_245 rfl rfl ?_
                                    exact e_forget (L' := [some (.ref 4000000), some (.ref 0), some (.ref 73), some (.int (x3 + (6 : Int32)))]) (lf_k (lf_k (lf_k (lf_k lf_0)))) (ih (x3 + (6 : Int32)) y99.2 Q hf hq)
                                  · rw [if_neg hc100] at hf
                                    refine e_ic_f hm_245 rfl (cf_eq hc100) ?_
                                    refine e_iconst hm_245 rfl kc_iconst_0 ?_
                                    obtain rfl := Option.some.inj hf
                                    exact e_zret hm_245 rfl rfl (by decide) hq
                                · rw [if_neg hc93] at hf
                                  by_cases hc101 : ((Z.2 x3.toNatClampNeg) &&& (31 : Int32)) = (14 : Int32)
                                  · rw [if_pos hc101] at hf
                                    refine e_tsw (t := 548) hm_245 rfl (by rw [hc101]; rfl) ?_
                                    refine e_aload_n hm_245 rfl rfl ?_
                                    obtain ⟨y102, hky102, hf⟩ := mm_bd hf
                                    refine e_virt hm_245 rfl rfl rfl rfl (Nat.le_of_ble_eq_true rfl) hm_133 rfl rfl (c_133 M hky102 ?_)
                                    show Ev Z _ 245 552 [some (.ref 4000000), some (.ref 0), some (.ref 73), some (.int x3)] [.int y102.1] (mm_H y102.2) Q
                                    refine e_aload_n hm_245 rfl rfl ?_
                                    obtain ⟨y103, hky103, hf⟩ := mm_bd hf
                                    refine e_virt hm_245 rfl rfl rfl rfl (Nat.le_of_ble_eq_true rfl) hm_226 rfl rfl (c_226 y102.2 hky103 ?_)
                                    show Ev Z _ 245 556 [some (.ref 4000000), some (.ref 0), some (.ref 73), some (.int x3)] [.int y103.1, .int y102.1] (mm_H y103.2) Q
                                    by_cases hc104 : y102.1 = y103.1
                                    · rw [if_pos hc104] at hf
                                      refine e_ic_t (t := 988) hm_245 rfl (ct_eq hc104) rfl ?_
                                      refine e_iinc (L2 := [some (.ref 4000000), some (.ref 0), some (.ref 73), some (.int (x3 + (6 : Int32)))]) hm_245 rfl kc_iinc_6 rfl rfl ?_
                                      refine e_goto (t := 18) hm_245 rfl rfl ?_
                                      exact e_forget (L' := [some (.ref 4000000), some (.ref 0), some (.ref 73), some (.int (x3 + (6 : Int32)))]) (lf_k (lf_k (lf_k (lf_k lf_0)))) (ih (x3 + (6 : Int32)) y103.2 Q hf hq)
                                    · rw [if_neg hc104] at hf
                                      refine e_ic_f hm_245 rfl (cf_eq hc104) ?_
                                      refine e_iconst hm_245 rfl kc_iconst_0 ?_
                                      obtain rfl := Option.some.inj hf
                                      exact e_zret hm_245 rfl rfl (by decide) hq
                                  · rw [if_neg hc101] at hf
                                    by_cases hc105 : ((Z.2 x3.toNatClampNeg) &&& (31 : Int32)) = (15 : Int32)
                                    · rw [if_pos hc105] at hf
                                      refine e_tsw (t := 561) hm_245 rfl (by rw [hc105]; rfl) ?_
                                      refine e_aload_n hm_245 rfl rfl ?_
                                      refine e_aload_n hm_245 rfl rfl ?_
                                      refine e_iload_n hm_245 rfl rfl ?_
                                      refine e_iconst hm_245 rfl kc_iconst_1 ?_
                                      refine e_iadd hm_245 rfl ?_
                                      obtain ⟨hi106, hf⟩ := mm_ite hf
                                      refine e_siald hm_245 rfl rfl rfl hi106 ?_
                                      refine e_aload_n hm_245 rfl rfl ?_
                                      refine e_iload_n hm_245 rfl rfl ?_
                                      refine e_iconst hm_245 rfl kc_iconst_2 ?_
                                      refine e_iadd hm_245 rfl ?_
                                      obtain ⟨hi107, hf⟩ := mm_ite hf
                                      refine e_siald hm_245 rfl rfl rfl hi107 ?_
                                      refine e_aload_n hm_245 rfl rfl ?_
                                      refine e_iload_n hm_245 rfl rfl ?_
                                      refine e_iconst hm_245 rfl kc_iconst_3 ?_
                                      refine e_iadd hm_245 rfl ?_
                                      obtain ⟨hi108, hf⟩ := mm_ite hf
                                      refine e_siald hm_245 rfl rfl rfl hi108 ?_
                                      obtain ⟨y109, hky109, hf⟩ := mm_bd hf
                                      refine e_virt hm_245 rfl rfl rfl rfl (Nat.le_of_ble_eq_true rfl) hm_135 rfl rfl (c_135 (Z.2 (x3 + (1 : Int32)).toNatClampNeg) (Z.2 (x3 + (2 : Int32)).toNatClampNeg) (Z.2 (x3 + (3 : Int32)).toNatClampNeg) M hky109 ?_)
                                      show Ev Z _ 245 580 [some (.ref 4000000), some (.ref 0), some (.ref 73), some (.int x3)] [.int y109.1] (mm_H y109.2) Q
                                      refine e_aload_n hm_245 rfl rfl ?_
                                      refine e_aload_n hm_245 rfl rfl ?_
                                      refine e_iload_n hm_245 rfl rfl ?_
                                      refine e_iconst hm_245 rfl kc_iconst_1 ?_
                                      refine e_iadd hm_245 rfl ?_
                                      obtain ⟨hi110, hf⟩ := mm_ite hf
                                      refine e_siald hm_245 rfl rfl rfl hi110 ?_
                                      refine e_aload_n hm_245 rfl rfl ?_
                                      refine e_iload_n hm_245 rfl rfl ?_
                                      refine e_iconst hm_245 rfl kc_iconst_2 ?_
                                      refine e_iadd hm_245 rfl ?_
                                      obtain ⟨hi111, hf⟩ := mm_ite hf
                                      refine e_siald hm_245 rfl rfl rfl hi111 ?_
                                      refine e_aload_n hm_245 rfl rfl ?_
                                      refine e_iload_n hm_245 rfl rfl ?_
                                      refine e_iconst hm_245 rfl kc_iconst_3 ?_
                                      refine e_iadd hm_245 rfl ?_
                                      obtain ⟨hi112, hf⟩ := mm_ite hf
                                      refine e_siald hm_245 rfl rfl rfl hi112 ?_
                                      obtain ⟨y113, hky113, hf⟩ := mm_bd hf
                                      refine e_virt hm_245 rfl rfl rfl rfl (Nat.le_of_ble_eq_true rfl) hm_229 rfl rfl (c_229 (Z.2 (x3 + (1 : Int32)).toNatClampNeg) (Z.2 (x3 + (2 : Int32)).toNatClampNeg) (Z.2 (x3 + (3 : Int32)).toNatClampNeg) y109.2 hky113 ?_)
                                      show Ev Z _ 245 599 [some (.ref 4000000), some (.ref 0), some (.ref 73), some (.int x3)] [.int y113.1, .int y109.1] (mm_H y113.2) Q
                                      by_cases hc114 : y109.1 = y113.1
                                      · rw [if_pos hc114] at hf
                                        refine e_ic_t (t := 988) hm_245 rfl (ct_eq hc114) rfl ?_
                                        refine e_iinc (L2 := [some (.ref 4000000), some (.ref 0), some (.ref 73), some (.int (x3 + (6 : Int32)))]) hm_245 rfl kc_iinc_6 rfl rfl ?_
                                        refine e_goto (t := 18) hm_245 rfl rfl ?_
                                        exact e_forget (L' := [some (.ref 4000000), some (.ref 0), some (.ref 73), some (.int (x3 + (6 : Int32)))]) (lf_k (lf_k (lf_k (lf_k lf_0)))) (ih (x3 + (6 : Int32)) y113.2 Q hf hq)
                                      · rw [if_neg hc114] at hf
                                        refine e_ic_f hm_245 rfl (cf_eq hc114) ?_
                                        refine e_iconst hm_245 rfl kc_iconst_0 ?_
                                        obtain rfl := Option.some.inj hf
                                        exact e_zret hm_245 rfl rfl (by decide) hq
                                    · rw [if_neg hc105] at hf
                                      by_cases hc115 : ((Z.2 x3.toNatClampNeg) &&& (31 : Int32)) = (16 : Int32)
                                      · rw [if_pos hc115] at hf
                                        refine e_tsw (t := 604) hm_245 rfl (by rw [hc115]; rfl) ?_
                                        refine e_aload_n hm_245 rfl rfl ?_
                                        refine e_aload_n hm_245 rfl rfl ?_
                                        refine e_iload_n hm_245 rfl rfl ?_
                                        refine e_iconst hm_245 rfl kc_iconst_1 ?_
                                        refine e_iadd hm_245 rfl ?_
                                        obtain ⟨hi116, hf⟩ := mm_ite hf
                                        refine e_siald hm_245 rfl rfl rfl hi116 ?_
                                        refine e_aload_n hm_245 rfl rfl ?_
                                        refine e_iload_n hm_245 rfl rfl ?_
                                        refine e_iconst hm_245 rfl kc_iconst_2 ?_
                                        refine e_iadd hm_245 rfl ?_
                                        obtain ⟨hi117, hf⟩ := mm_ite hf
                                        refine e_siald hm_245 rfl rfl rfl hi117 ?_
                                        obtain ⟨y118, hky118, hf⟩ := mm_bd hf
                                        refine e_virt hm_245 rfl rfl rfl rfl (Nat.le_of_ble_eq_true rfl) hm_146 rfl rfl (c_146 (Z.2 (x3 + (1 : Int32)).toNatClampNeg) (Z.2 (x3 + (2 : Int32)).toNatClampNeg) M hky118 ?_)
                                        show Ev Z _ 245 618 [some (.ref 4000000), some (.ref 0), some (.ref 73), some (.int x3)] [.int y118.1] (mm_H y118.2) Q
                                        refine e_aload_n hm_245 rfl rfl ?_
                                        refine e_aload_n hm_245 rfl rfl ?_
                                        refine e_iload_n hm_245 rfl rfl ?_
                                        refine e_iconst hm_245 rfl kc_iconst_1 ?_
                                        refine e_iadd hm_245 rfl ?_
                                        obtain ⟨hi119, hf⟩ := mm_ite hf
                                        refine e_siald hm_245 rfl rfl rfl hi119 ?_
                                        refine e_aload_n hm_245 rfl rfl ?_
                                        refine e_iload_n hm_245 rfl rfl ?_
                                        refine e_iconst hm_245 rfl kc_iconst_2 ?_
                                        refine e_iadd hm_245 rfl ?_
                                        obtain ⟨hi120, hf⟩ := mm_ite hf
                                        refine e_siald hm_245 rfl rfl rfl hi120 ?_
                                        obtain ⟨y121, hky121, hf⟩ := mm_bd hf
                                        refine e_virt hm_245 rfl rfl rfl rfl (Nat.le_of_ble_eq_true rfl) hm_232 rfl rfl (c_232 (Z.2 (x3 + (1 : Int32)).toNatClampNeg) (Z.2 (x3 + (2 : Int32)).toNatClampNeg) y118.2 hky121 ?_)
                                        show Ev Z _ 245 632 [some (.ref 4000000), some (.ref 0), some (.ref 73), some (.int x3)] [.int y121.1, .int y118.1] (mm_H y121.2) Q
                                        by_cases hc122 : y118.1 = y121.1
                                        · rw [if_pos hc122] at hf
                                          refine e_ic_t (t := 988) hm_245 rfl (ct_eq hc122) rfl ?_
                                          refine e_iinc (L2 := [some (.ref 4000000), some (.ref 0), some (.ref 73), some (.int (x3 + (6 : Int32)))]) hm_245 rfl kc_iinc_6 rfl rfl ?_
                                          refine e_goto (t := 18) hm_245 rfl rfl ?_
                                          exact e_forget (L' := [some (.ref 4000000), some (.ref 0), some (.ref 73), some (.int (x3 + (6 : Int32)))]) (lf_k (lf_k (lf_k (lf_k lf_0)))) (ih (x3 + (6 : Int32)) y121.2 Q hf hq)
                                        · rw [if_neg hc122] at hf
                                          refine e_ic_f hm_245 rfl (cf_eq hc122) ?_
                                          refine e_iconst hm_245 rfl kc_iconst_0 ?_
                                          obtain rfl := Option.some.inj hf
                                          exact e_zret hm_245 rfl rfl (by decide) hq
                                      · rw [if_neg hc115] at hf
                                        by_cases hc123 : ((Z.2 x3.toNatClampNeg) &&& (31 : Int32)) = (17 : Int32)
                                        · rw [if_pos hc123] at hf
                                          refine e_tsw (t := 637) hm_245 rfl (by rw [hc123]; rfl) ?_
                                          refine e_aload_n hm_245 rfl rfl ?_
                                          refine e_aload_n hm_245 rfl rfl ?_
                                          refine e_iload_n hm_245 rfl rfl ?_
                                          refine e_iconst hm_245 rfl kc_iconst_1 ?_
                                          refine e_iadd hm_245 rfl ?_
                                          obtain ⟨hi124, hf⟩ := mm_ite hf
                                          refine e_siald hm_245 rfl rfl rfl hi124 ?_
                                          obtain ⟨y125, hky125, hf⟩ := mm_bd hf
                                          refine e_virt hm_245 rfl rfl rfl rfl (Nat.le_of_ble_eq_true rfl) hm_150 rfl rfl (c_150 (Z.2 (x3 + (1 : Int32)).toNatClampNeg) M hky125 ?_)
                                          show Ev Z _ 245 646 [some (.ref 4000000), some (.ref 0), some (.ref 73), some (.int x3)] [.int y125.1] (mm_H y125.2) Q
                                          refine e_aload_n hm_245 rfl rfl ?_
                                          refine e_aload_n hm_245 rfl rfl ?_
                                          refine e_iload_n hm_245 rfl rfl ?_
                                          refine e_iconst hm_245 rfl kc_iconst_1 ?_
                                          refine e_iadd hm_245 rfl ?_
                                          obtain ⟨hi126, hf⟩ := mm_ite hf
                                          refine e_siald hm_245 rfl rfl rfl hi126 ?_
                                          obtain ⟨y127, hky127, hf⟩ := mm_bd hf
                                          refine e_virt hm_245 rfl rfl rfl rfl (Nat.le_of_ble_eq_true rfl) hm_234 rfl rfl (c_234 (Z.2 (x3 + (1 : Int32)).toNatClampNeg) y125.2 hky127 ?_)
                                          show Ev Z _ 245 655 [some (.ref 4000000), some (.ref 0), some (.ref 73), some (.int x3)] [.int y127.1, .int y125.1] (mm_H y127.2) Q
                                          by_cases hc128 : y125.1 = y127.1
                                          · rw [if_pos hc128] at hf
                                            refine e_ic_t (t := 988) hm_245 rfl (ct_eq hc128) rfl ?_
                                            refine e_iinc (L2 := [some (.ref 4000000), some (.ref 0), some (.ref 73), some (.int (x3 + (6 : Int32)))]) hm_245 rfl kc_iinc_6 rfl rfl ?_
                                            refine e_goto (t := 18) hm_245 rfl rfl ?_
                                            exact e_forget (L' := [some (.ref 4000000), some (.ref 0), some (.ref 73), some (.int (x3 + (6 : Int32)))]) (lf_k (lf_k (lf_k (lf_k lf_0)))) (ih (x3 + (6 : Int32)) y127.2 Q hf hq)
                                          · rw [if_neg hc128] at hf
                                            refine e_ic_f hm_245 rfl (cf_eq hc128) ?_
                                            refine e_iconst hm_245 rfl kc_iconst_0 ?_
                                            obtain rfl := Option.some.inj hf
                                            exact e_zret hm_245 rfl rfl (by decide) hq
                                        · rw [if_neg hc123] at hf
                                          by_cases hc129 : ((Z.2 x3.toNatClampNeg) &&& (31 : Int32)) = (18 : Int32)
                                          · rw [if_pos hc129] at hf
                                            refine e_tsw (t := 660) hm_245 rfl (by rw [hc129]; rfl) ?_
                                            refine e_aload_n hm_245 rfl rfl ?_
                                            refine e_aload_n hm_245 rfl rfl ?_
                                            refine e_iload_n hm_245 rfl rfl ?_
                                            refine e_iconst hm_245 rfl kc_iconst_1 ?_
                                            refine e_iadd hm_245 rfl ?_
                                            obtain ⟨hi130, hf⟩ := mm_ite hf
                                            refine e_siald hm_245 rfl rfl rfl hi130 ?_
                                            refine e_aload_n hm_245 rfl rfl ?_
                                            refine e_iload_n hm_245 rfl rfl ?_
                                            refine e_iconst hm_245 rfl kc_iconst_2 ?_
                                            refine e_iadd hm_245 rfl ?_
                                            obtain ⟨hi131, hf⟩ := mm_ite hf
                                            refine e_siald hm_245 rfl rfl rfl hi131 ?_
                                            refine e_aload_n hm_245 rfl rfl ?_
                                            refine e_iload_n hm_245 rfl rfl ?_
                                            refine e_iconst hm_245 rfl kc_iconst_3 ?_
                                            refine e_iadd hm_245 rfl ?_
                                            obtain ⟨hi132, hf⟩ := mm_ite hf
                                            refine e_siald hm_245 rfl rfl rfl hi132 ?_
                                            obtain ⟨y133, hky133, hf⟩ := mm_bd hf
                                            refine e_virt hm_245 rfl rfl rfl rfl (Nat.le_of_ble_eq_true rfl) hm_152 rfl rfl (c_152 (Z.2 (x3 + (1 : Int32)).toNatClampNeg) (Z.2 (x3 + (2 : Int32)).toNatClampNeg) (Z.2 (x3 + (3 : Int32)).toNatClampNeg) M hky133 ?_)
                                            show Ev Z _ 245 679 [some (.ref 4000000), some (.ref 0), some (.ref 73), some (.int x3)] [.long y133.1] (mm_H y133.2) Q
                                            refine e_aload_n hm_245 rfl rfl ?_
                                            refine e_aload_n hm_245 rfl rfl ?_
                                            refine e_iload_n hm_245 rfl rfl ?_
                                            refine e_iconst hm_245 rfl kc_iconst_1 ?_
                                            refine e_iadd hm_245 rfl ?_
                                            obtain ⟨hi134, hf⟩ := mm_ite hf
                                            refine e_siald hm_245 rfl rfl rfl hi134 ?_
                                            refine e_aload_n hm_245 rfl rfl ?_
                                            refine e_iload_n hm_245 rfl rfl ?_
                                            refine e_iconst hm_245 rfl kc_iconst_2 ?_
                                            refine e_iadd hm_245 rfl ?_
                                            obtain ⟨hi135, hf⟩ := mm_ite hf
                                            refine e_siald hm_245 rfl rfl rfl hi135 ?_
                                            refine e_aload_n hm_245 rfl rfl ?_
                                            refine e_iload_n hm_245 rfl rfl ?_
                                            refine e_iconst hm_245 rfl kc_iconst_3 ?_
                                            refine e_iadd hm_245 rfl ?_
                                            obtain ⟨hi136, hf⟩ := mm_ite hf
                                            refine e_siald hm_245 rfl rfl rfl hi136 ?_
                                            obtain ⟨y137, hky137, hf⟩ := mm_bd hf
                                            refine e_virt hm_245 rfl rfl rfl rfl (Nat.le_of_ble_eq_true rfl) hm_236 rfl rfl (c_236 (Z.2 (x3 + (1 : Int32)).toNatClampNeg) (Z.2 (x3 + (2 : Int32)).toNatClampNeg) (Z.2 (x3 + (3 : Int32)).toNatClampNeg) y133.2 hky137 ?_)
                                            show Ev Z _ 245 698 [some (.ref 4000000), some (.ref 0), some (.ref 73), some (.int x3)] [.long y137.1, .long y133.1] (mm_H y137.2) Q
                                            refine e_lcmp hm_245 rfl ?_
                                            by_cases hc138 : (lg_cmp y133.1 y137.1) = (0 : Int32)
                                            · rw [if_pos hc138] at hf
                                              refine e_if_t (t := 988) hm_245 rfl (ct_eq hc138) rfl ?_
                                              refine e_iinc (L2 := [some (.ref 4000000), some (.ref 0), some (.ref 73), some (.int (x3 + (6 : Int32)))]) hm_245 rfl kc_iinc_6 rfl rfl ?_
                                              refine e_goto (t := 18) hm_245 rfl rfl ?_
                                              exact e_forget (L' := [some (.ref 4000000), some (.ref 0), some (.ref 73), some (.int (x3 + (6 : Int32)))]) (lf_k (lf_k (lf_k (lf_k lf_0)))) (ih (x3 + (6 : Int32)) y137.2 Q hf hq)
                                            · rw [if_neg hc138] at hf
                                              refine e_if_f hm_245 rfl (cf_eq hc138) ?_
                                              refine e_iconst hm_245 rfl kc_iconst_0 ?_
                                              obtain rfl := Option.some.inj hf
                                              exact e_zret hm_245 rfl rfl (by decide) hq
                                          · rw [if_neg hc129] at hf
                                            by_cases hc139 : ((Z.2 x3.toNatClampNeg) &&& (31 : Int32)) = (19 : Int32)
                                            · rw [if_pos hc139] at hf
                                              refine e_tsw (t := 704) hm_245 rfl (by rw [hc139]; rfl) ?_
                                              refine e_aload_n hm_245 rfl rfl ?_
                                              obtain ⟨y140, hky140, hf⟩ := mm_bd hf
                                              refine e_virt hm_245 rfl rfl rfl rfl (Nat.le_of_ble_eq_true rfl) hm_154 rfl rfl (c_154 M hky140 ?_)
                                              show Ev Z _ 245 708 [some (.ref 4000000), some (.ref 0), some (.ref 73), some (.int x3)] [.int y140.1] (mm_H y140.2) Q
                                              refine e_aload_n hm_245 rfl rfl ?_
                                              obtain ⟨y141, hky141, hf⟩ := mm_bd hf
                                              refine e_virt hm_245 rfl rfl rfl rfl (Nat.le_of_ble_eq_true rfl) hm_237 rfl rfl (c_237 y140.2 hky141 ?_)
                                              show Ev Z _ 245 712 [some (.ref 4000000), some (.ref 0), some (.ref 73), some (.int x3)] [.int y141.1, .int y140.1] (mm_H y141.2) Q
                                              by_cases hc142 : y140.1 = y141.1
                                              · rw [if_pos hc142] at hf
                                                refine e_ic_t (t := 988) hm_245 rfl (ct_eq hc142) rfl ?_
                                                refine e_iinc (L2 := [some (.ref 4000000), some (.ref 0), some (.ref 73), some (.int (x3 + (6 : Int32)))]) hm_245 rfl kc_iinc_6 rfl rfl ?_
                                                refine e_goto (t := 18) hm_245 rfl rfl ?_
                                                exact e_forget (L' := [some (.ref 4000000), some (.ref 0), some (.ref 73), some (.int (x3 + (6 : Int32)))]) (lf_k (lf_k (lf_k (lf_k lf_0)))) (ih (x3 + (6 : Int32)) y141.2 Q hf hq)
                                              · rw [if_neg hc142] at hf
                                                refine e_ic_f hm_245 rfl (cf_eq hc142) ?_
                                                refine e_iconst hm_245 rfl kc_iconst_0 ?_
                                                obtain rfl := Option.some.inj hf
                                                exact e_zret hm_245 rfl rfl (by decide) hq
                                            · rw [if_neg hc139] at hf
                                              by_cases hc143 : ((Z.2 x3.toNatClampNeg) &&& (31 : Int32)) = (20 : Int32)
                                              · rw [if_pos hc143] at hf
                                                refine e_tsw (t := 717) hm_245 rfl (by rw [hc143]; rfl) ?_
                                                refine e_aload_n hm_245 rfl rfl ?_
                                                obtain ⟨y144, hky144, hf⟩ := mm_bd hf
                                                refine e_virt hm_245 rfl rfl rfl rfl (Nat.le_of_ble_eq_true rfl) hm_155 rfl rfl (c_155 M hky144 ?_)
                                                show Ev Z _ 245 721 [some (.ref 4000000), some (.ref 0), some (.ref 73), some (.int x3)] [.int y144.1] (mm_H y144.2) Q
                                                refine e_aload_n hm_245 rfl rfl ?_
                                                obtain ⟨y145, hky145, hf⟩ := mm_bd hf
                                                refine e_virt hm_245 rfl rfl rfl rfl (Nat.le_of_ble_eq_true rfl) hm_238 rfl rfl (c_238 y144.2 hky145 ?_)
                                                show Ev Z _ 245 725 [some (.ref 4000000), some (.ref 0), some (.ref 73), some (.int x3)] [.int y145.1, .int y144.1] (mm_H y145.2) Q
                                                by_cases hc146 : y144.1 = y145.1
                                                · rw [if_pos hc146] at hf
                                                  refine e_ic_t (t := 988) hm_245 rfl (ct_eq hc146) rfl ?_
                                                  refine e_iinc (L2 := [some (.ref 4000000), some (.ref 0), some (.ref 73), some (.int (x3 + (6 : Int32)))]) hm_245 rfl kc_iinc_6 rfl rfl ?_
                                                  refine e_goto (t := 18) hm_245 rfl rfl ?_
                                                  exact e_forget (L' := [some (.ref 4000000), some (.ref 0), some (.ref 73), some (.int (x3 + (6 : Int32)))]) (lf_k (lf_k (lf_k (lf_k lf_0)))) (ih (x3 + (6 : Int32)) y145.2 Q hf hq)
                                                · rw [if_neg hc146] at hf
                                                  refine e_ic_f hm_245 rfl (cf_eq hc146) ?_
                                                  refine e_iconst hm_245 rfl kc_iconst_0 ?_
                                                  obtain rfl := Option.some.inj hf
                                                  exact e_zret hm_245 rfl rfl (by decide) hq
                                              · rw [if_neg hc143] at hf
                                                by_cases hc147 : ((Z.2 x3.toNatClampNeg) &&& (31 : Int32)) = (21 : Int32)
                                                · rw [if_pos hc147] at hf
                                                  refine e_tsw (t := 730) hm_245 rfl (by rw [hc147]; rfl) ?_
                                                  refine e_aload_n hm_245 rfl rfl ?_
                                                  refine e_aload_n hm_245 rfl rfl ?_
                                                  refine e_iload_n hm_245 rfl rfl ?_
                                                  refine e_iconst hm_245 rfl kc_iconst_1 ?_
                                                  refine e_iadd hm_245 rfl ?_
                                                  obtain ⟨hi148, hf⟩ := mm_ite hf
                                                  refine e_siald hm_245 rfl rfl rfl hi148 ?_
                                                  obtain ⟨y149, hky149, hf⟩ := mm_bd hf
                                                  refine e_virt hm_245 rfl rfl rfl rfl (Nat.le_of_ble_eq_true rfl) hm_156 rfl rfl (c_156 (Z.2 (x3 + (1 : Int32)).toNatClampNeg) M hky149 ?_)
                                                  show Ev Z _ 245 739 [some (.ref 4000000), some (.ref 0), some (.ref 73), some (.int x3)] [.int y149.1] (mm_H y149.2) Q
                                                  refine e_aload_n hm_245 rfl rfl ?_
                                                  refine e_aload_n hm_245 rfl rfl ?_
                                                  refine e_iload_n hm_245 rfl rfl ?_
                                                  refine e_iconst hm_245 rfl kc_iconst_1 ?_
                                                  refine e_iadd hm_245 rfl ?_
                                                  obtain ⟨hi150, hf⟩ := mm_ite hf
                                                  refine e_siald hm_245 rfl rfl rfl hi150 ?_
                                                  obtain ⟨y151, hky151, hf⟩ := mm_bd hf
                                                  refine e_virt hm_245 rfl rfl rfl rfl (Nat.le_of_ble_eq_true rfl) hm_239 rfl rfl (c_239 (Z.2 (x3 + (1 : Int32)).toNatClampNeg) y149.2 hky151 ?_)
                                                  show Ev Z _ 245 748 [some (.ref 4000000), some (.ref 0), some (.ref 73), some (.int x3)] [.int y151.1, .int y149.1] (mm_H y151.2) Q
                                                  by_cases hc152 : y149.1 = y151.1
                                                  · rw [if_pos hc152] at hf
                                                    refine e_ic_t (t := 988) hm_245 rfl (ct_eq hc152) rfl ?_
                                                    refine e_iinc (L2 := [some (.ref 4000000), some (.ref 0), some (.ref 73), some (.int (x3 + (6 : Int32)))]) hm_245 rfl kc_iinc_6 rfl rfl ?_
                                                    refine e_goto (t := 18) hm_245 rfl rfl ?_
                                                    exact e_forget (L' := [some (.ref 4000000), some (.ref 0), some (.ref 73), some (.int (x3 + (6 : Int32)))]) (lf_k (lf_k (lf_k (lf_k lf_0)))) (ih (x3 + (6 : Int32)) y151.2 Q hf hq)
                                                  · rw [if_neg hc152] at hf
                                                    refine e_ic_f hm_245 rfl (cf_eq hc152) ?_
                                                    refine e_iconst hm_245 rfl kc_iconst_0 ?_
                                                    obtain rfl := Option.some.inj hf
                                                    exact e_zret hm_245 rfl rfl (by decide) hq
                                                · rw [if_neg hc147] at hf
                                                  by_cases hc153 : ((Z.2 x3.toNatClampNeg) &&& (31 : Int32)) = (22 : Int32)
                                                  · rw [if_pos hc153] at hf
                                                    refine e_tsw (t := 753) hm_245 rfl (by rw [hc153]; rfl) ?_
                                                    refine e_aload_n hm_245 rfl rfl ?_
                                                    refine e_aload_n hm_245 rfl rfl ?_
                                                    refine e_iload_n hm_245 rfl rfl ?_
                                                    refine e_iconst hm_245 rfl kc_iconst_1 ?_
                                                    refine e_iadd hm_245 rfl ?_
                                                    obtain ⟨hi154, hf⟩ := mm_ite hf
                                                    refine e_siald hm_245 rfl rfl rfl hi154 ?_
                                                    refine e_aload_n hm_245 rfl rfl ?_
                                                    refine e_iload_n hm_245 rfl rfl ?_
                                                    refine e_iconst hm_245 rfl kc_iconst_2 ?_
                                                    refine e_iadd hm_245 rfl ?_
                                                    obtain ⟨hi155, hf⟩ := mm_ite hf
                                                    refine e_siald hm_245 rfl rfl rfl hi155 ?_
                                                    refine e_aload_n hm_245 rfl rfl ?_
                                                    refine e_iload_n hm_245 rfl rfl ?_
                                                    refine e_iconst hm_245 rfl kc_iconst_3 ?_
                                                    refine e_iadd hm_245 rfl ?_
                                                    obtain ⟨hi156, hf⟩ := mm_ite hf
                                                    refine e_siald hm_245 rfl rfl rfl hi156 ?_
                                                    obtain ⟨y157, hky157, hf⟩ := mm_bd hf
                                                    refine e_virt hm_245 rfl rfl rfl rfl (Nat.le_of_ble_eq_true rfl) hm_159 rfl rfl (c_159 (Z.2 (x3 + (1 : Int32)).toNatClampNeg) (Z.2 (x3 + (2 : Int32)).toNatClampNeg) (Z.2 (x3 + (3 : Int32)).toNatClampNeg) M hky157 ?_)
                                                    show Ev Z _ 245 772 [some (.ref 4000000), some (.ref 0), some (.ref 73), some (.int x3)] [.int y157.1] (mm_H y157.2) Q
                                                    refine e_aload_n hm_245 rfl rfl ?_
                                                    refine e_aload_n hm_245 rfl rfl ?_
                                                    refine e_iload_n hm_245 rfl rfl ?_
                                                    refine e_iconst hm_245 rfl kc_iconst_1 ?_
                                                    refine e_iadd hm_245 rfl ?_
                                                    obtain ⟨hi158, hf⟩ := mm_ite hf
                                                    refine e_siald hm_245 rfl rfl rfl hi158 ?_
                                                    refine e_aload_n hm_245 rfl rfl ?_
                                                    refine e_iload_n hm_245 rfl rfl ?_
                                                    refine e_iconst hm_245 rfl kc_iconst_2 ?_
                                                    refine e_iadd hm_245 rfl ?_
                                                    obtain ⟨hi159, hf⟩ := mm_ite hf
                                                    refine e_siald hm_245 rfl rfl rfl hi159 ?_
                                                    refine e_aload_n hm_245 rfl rfl ?_
                                                    refine e_iload_n hm_245 rfl rfl ?_
                                                    refine e_iconst hm_245 rfl kc_iconst_3 ?_
                                                    refine e_iadd hm_245 rfl ?_
                                                    obtain ⟨hi160, hf⟩ := mm_ite hf
                                                    refine e_siald hm_245 rfl rfl rfl hi160 ?_
                                                    obtain ⟨y161, hky161, hf⟩ := mm_bd hf
                                                    refine e_virt hm_245 rfl rfl rfl rfl (Nat.le_of_ble_eq_true rfl) hm_233 rfl rfl (c_233 (Z.2 (x3 + (1 : Int32)).toNatClampNeg) (Z.2 (x3 + (2 : Int32)).toNatClampNeg) (Z.2 (x3 + (3 : Int32)).toNatClampNeg) y157.2 hky161 ?_)
                                                    show Ev Z _ 245 791 [some (.ref 4000000), some (.ref 0), some (.ref 73), some (.int x3)] [.int y161.1, .int y157.1] (mm_H y161.2) Q
                                                    by_cases hc162 : y157.1 = y161.1
                                                    · rw [if_pos hc162] at hf
                                                      refine e_ic_t (t := 988) hm_245 rfl (ct_eq hc162) rfl ?_
                                                      refine e_iinc (L2 := [some (.ref 4000000), some (.ref 0), some (.ref 73), some (.int (x3 + (6 : Int32)))]) hm_245 rfl kc_iinc_6 rfl rfl ?_
                                                      refine e_goto (t := 18) hm_245 rfl rfl ?_
                                                      exact e_forget (L' := [some (.ref 4000000), some (.ref 0), some (.ref 73), some (.int (x3 + (6 : Int32)))]) (lf_k (lf_k (lf_k (lf_k lf_0)))) (ih (x3 + (6 : Int32)) y161.2 Q hf hq)
                                                    · rw [if_neg hc162] at hf
                                                      refine e_ic_f hm_245 rfl (cf_eq hc162) ?_
                                                      refine e_iconst hm_245 rfl kc_iconst_0 ?_
                                                      obtain rfl := Option.some.inj hf
                                                      exact e_zret hm_245 rfl rfl (by decide) hq
                                                  · rw [if_neg hc153] at hf
                                                    by_cases hc163 : ((Z.2 x3.toNatClampNeg) &&& (31 : Int32)) = (23 : Int32)
                                                    · rw [if_pos hc163] at hf
                                                      refine e_tsw (t := 796) hm_245 rfl (by rw [hc163]; rfl) ?_
                                                      refine e_aload_n hm_245 rfl rfl ?_
                                                      refine e_aload_n hm_245 rfl rfl ?_
                                                      refine e_iload_n hm_245 rfl rfl ?_
                                                      refine e_iconst hm_245 rfl kc_iconst_1 ?_
                                                      refine e_iadd hm_245 rfl ?_
                                                      obtain ⟨hi164, hf⟩ := mm_ite hf
                                                      refine e_siald hm_245 rfl rfl rfl hi164 ?_
                                                      refine e_aload_n hm_245 rfl rfl ?_
                                                      refine e_iload_n hm_245 rfl rfl ?_
                                                      refine e_iconst hm_245 rfl kc_iconst_2 ?_
                                                      refine e_iadd hm_245 rfl ?_
                                                      obtain ⟨hi165, hf⟩ := mm_ite hf
                                                      refine e_siald hm_245 rfl rfl rfl hi165 ?_
                                                      refine e_aload_n hm_245 rfl rfl ?_
                                                      refine e_iload_n hm_245 rfl rfl ?_
                                                      refine e_iconst hm_245 rfl kc_iconst_3 ?_
                                                      refine e_iadd hm_245 rfl ?_
                                                      obtain ⟨hi166, hf⟩ := mm_ite hf
                                                      refine e_siald hm_245 rfl rfl rfl hi166 ?_
                                                      obtain ⟨y167, hky167, hf⟩ := mm_bd hf
                                                      refine e_virt hm_245 rfl rfl rfl rfl (Nat.le_of_ble_eq_true rfl) hm_161 rfl rfl (c_161 (Z.2 (x3 + (1 : Int32)).toNatClampNeg) (Z.2 (x3 + (2 : Int32)).toNatClampNeg) (Z.2 (x3 + (3 : Int32)).toNatClampNeg) M hky167 ?_)
                                                      show Ev Z _ 245 815 [some (.ref 4000000), some (.ref 0), some (.ref 73), some (.int x3)] [.int y167.1] (mm_H y167.2) Q
                                                      refine e_aload_n hm_245 rfl rfl ?_
                                                      refine e_aload_n hm_245 rfl rfl ?_
                                                      refine e_iload_n hm_245 rfl rfl ?_
                                                      refine e_iconst hm_245 rfl kc_iconst_1 ?_
                                                      refine e_iadd hm_245 rfl ?_
                                                      obtain ⟨hi168, hf⟩ := mm_ite hf
                                                      refine e_siald hm_245 rfl rfl rfl hi168 ?_
                                                      refine e_aload_n hm_245 rfl rfl ?_
                                                      refine e_iload_n hm_245 rfl rfl ?_
                                                      refine e_iconst hm_245 rfl kc_iconst_2 ?_
                                                      refine e_iadd hm_245 rfl ?_
                                                      obtain ⟨hi169, hf⟩ := mm_ite hf
                                                      refine e_siald hm_245 rfl rfl rfl hi169 ?_
                                                      refine e_aload_n hm_245 rfl rfl ?_
                                                      refine e_iload_n hm_245 rfl rfl ?_
                                                      refine e_iconst hm_245 rfl kc_iconst_3 ?_
                                                      refine e_iadd hm_245 rfl ?_
                                                      obtain ⟨hi170, hf⟩ := mm_ite hf
                                                      refine e_siald hm_245 rfl rfl rfl hi170 ?_
                                                      obtain ⟨y171, hky171, hf⟩ := mm_bd hf
                                                      refine e_virt hm_245 rfl rfl rfl rfl (Nat.le_of_ble_eq_true rfl) hm_240 rfl rfl (c_240 (Z.2 (x3 + (1 : Int32)).toNatClampNeg) (Z.2 (x3 + (2 : Int32)).toNatClampNeg) (Z.2 (x3 + (3 : Int32)).toNatClampNeg) y167.2 hky171 ?_)
                                                      show Ev Z _ 245 834 [some (.ref 4000000), some (.ref 0), some (.ref 73), some (.int x3)] [.int y171.1, .int y167.1] (mm_H y171.2) Q
                                                      by_cases hc172 : y167.1 = y171.1
                                                      · rw [if_pos hc172] at hf
                                                        refine e_ic_t (t := 988) hm_245 rfl (ct_eq hc172) rfl ?_
                                                        refine e_iinc (L2 := [some (.ref 4000000), some (.ref 0), some (.ref 73), some (.int (x3 + (6 : Int32)))]) hm_245 rfl kc_iinc_6 rfl rfl ?_
                                                        refine e_goto (t := 18) hm_245 rfl rfl ?_
                                                        exact e_forget (L' := [some (.ref 4000000), some (.ref 0), some (.ref 73), some (.int (x3 + (6 : Int32)))]) (lf_k (lf_k (lf_k (lf_k lf_0)))) (ih (x3 + (6 : Int32)) y171.2 Q hf hq)
                                                      · rw [if_neg hc172] at hf
                                                        refine e_ic_f hm_245 rfl (cf_eq hc172) ?_
                                                        refine e_iconst hm_245 rfl kc_iconst_0 ?_
                                                        obtain rfl := Option.some.inj hf
                                                        exact e_zret hm_245 rfl rfl (by decide) hq
                                                    · rw [if_neg hc163] at hf
                                                      by_cases hc173 : ((Z.2 x3.toNatClampNeg) &&& (31 : Int32)) = (24 : Int32)
                                                      · rw [if_pos hc173] at hf
                                                        refine e_tsw (t := 839) hm_245 rfl (by rw [hc173]; rfl) ?_
                                                        refine e_aload_n hm_245 rfl rfl ?_
                                                        refine e_aload_n hm_245 rfl rfl ?_
                                                        refine e_iload_n hm_245 rfl rfl ?_
                                                        refine e_iconst hm_245 rfl kc_iconst_1 ?_
                                                        refine e_iadd hm_245 rfl ?_
                                                        obtain ⟨hi174, hf⟩ := mm_ite hf
                                                        refine e_siald hm_245 rfl rfl rfl hi174 ?_
                                                        refine e_aload_n hm_245 rfl rfl ?_
                                                        refine e_iload_n hm_245 rfl rfl ?_
                                                        refine e_iconst hm_245 rfl kc_iconst_2 ?_
                                                        refine e_iadd hm_245 rfl ?_
                                                        obtain ⟨hi175, hf⟩ := mm_ite hf
                                                        refine e_siald hm_245 rfl rfl rfl hi175 ?_
                                                        refine e_aload_n hm_245 rfl rfl ?_
                                                        refine e_iload_n hm_245 rfl rfl ?_
                                                        refine e_iconst hm_245 rfl kc_iconst_3 ?_
                                                        refine e_iadd hm_245 rfl ?_
                                                        obtain ⟨hi176, hf⟩ := mm_ite hf
                                                        refine e_siald hm_245 rfl rfl rfl hi176 ?_
                                                        refine e_aload_n hm_245 rfl rfl ?_
                                                        refine e_iload_n hm_245 rfl rfl ?_
                                                        refine e_iconst hm_245 rfl kc_iconst_4 ?_
                                                        refine e_iadd hm_245 rfl ?_
                                                        obtain ⟨hi177, hf⟩ := mm_ite hf
                                                        refine e_siald hm_245 rfl rfl rfl hi177 ?_
                                                        refine e_aload_n hm_245 rfl rfl ?_
                                                        refine e_iload_n hm_245 rfl rfl ?_
                                                        refine e_iconst hm_245 rfl kc_iconst_5 ?_
                                                        refine e_iadd hm_245 rfl ?_
                                                        obtain ⟨hi178, hf⟩ := mm_ite hf
                                                        refine e_siald hm_245 rfl rfl rfl hi178 ?_
                                                        obtain ⟨y179, hky179, hf⟩ := mm_bd hf
                                                        refine e_virt hm_245 rfl rfl rfl rfl (Nat.le_of_ble_eq_true rfl) hm_162 rfl rfl (c_162 (Z.2 (x3 + (1 : Int32)).toNatClampNeg) (Z.2 (x3 + (2 : Int32)).toNatClampNeg) (Z.2 (x3 + (3 : Int32)).toNatClampNeg) (Z.2 (x3 + (4 : Int32)).toNatClampNeg) (Z.2 (x3 + (5 : Int32)).toNatClampNeg) M hky179 ?_)
                                                        show Ev Z _ 245 868 [some (.ref 4000000), some (.ref 0), some (.ref 73), some (.int x3)] [.int y179.1] (mm_H y179.2) Q
                                                        refine e_aload_n hm_245 rfl rfl ?_
                                                        refine e_aload_n hm_245 rfl rfl ?_
                                                        refine e_iload_n hm_245 rfl rfl ?_
                                                        refine e_iconst hm_245 rfl kc_iconst_1 ?_
                                                        refine e_iadd hm_245 rfl ?_
                                                        obtain ⟨hi180, hf⟩ := mm_ite hf
                                                        refine e_siald hm_245 rfl rfl rfl hi180 ?_
                                                        refine e_aload_n hm_245 rfl rfl ?_
                                                        refine e_iload_n hm_245 rfl rfl ?_
                                                        refine e_iconst hm_245 rfl kc_iconst_2 ?_
                                                        refine e_iadd hm_245 rfl ?_
                                                        obtain ⟨hi181, hf⟩ := mm_ite hf
                                                        refine e_siald hm_245 rfl rfl rfl hi181 ?_
                                                        refine e_aload_n hm_245 rfl rfl ?_
                                                        refine e_iload_n hm_245 rfl rfl ?_
                                                        refine e_iconst hm_245 rfl kc_iconst_3 ?_
                                                        refine e_iadd hm_245 rfl ?_
                                                        obtain ⟨hi182, hf⟩ := mm_ite hf
                                                        refine e_siald hm_245 rfl rfl rfl hi182 ?_
                                                        refine e_aload_n hm_245 rfl rfl ?_
                                                        refine e_iload_n hm_245 rfl rfl ?_
                                                        refine e_iconst hm_245 rfl kc_iconst_4 ?_
                                                        refine e_iadd hm_245 rfl ?_
                                                        obtain ⟨hi183, hf⟩ := mm_ite hf
                                                        refine e_siald hm_245 rfl rfl rfl hi183 ?_
                                                        refine e_aload_n hm_245 rfl rfl ?_
                                                        refine e_iload_n hm_245 rfl rfl ?_
                                                        refine e_iconst hm_245 rfl kc_iconst_5 ?_
                                                        refine e_iadd hm_245 rfl ?_
                                                        obtain ⟨hi184, hf⟩ := mm_ite hf
                                                        refine e_siald hm_245 rfl rfl rfl hi184 ?_
                                                        obtain ⟨y185, hky185, hf⟩ := mm_bd hf
                                                        refine e_virt hm_245 rfl rfl rfl rfl (Nat.le_of_ble_eq_true rfl) hm_241 rfl rfl (c_241 (Z.2 (x3 + (1 : Int32)).toNatClampNeg) (Z.2 (x3 + (2 : Int32)).toNatClampNeg) (Z.2 (x3 + (3 : Int32)).toNatClampNeg) (Z.2 (x3 + (4 : Int32)).toNatClampNeg) (Z.2 (x3 + (5 : Int32)).toNatClampNeg) y179.2 hky185 ?_)
                                                        show Ev Z _ 245 897 [some (.ref 4000000), some (.ref 0), some (.ref 73), some (.int x3)] [.int y185.1, .int y179.1] (mm_H y185.2) Q
                                                        by_cases hc186 : y179.1 = y185.1
                                                        · rw [if_pos hc186] at hf
                                                          refine e_ic_t (t := 988) hm_245 rfl (ct_eq hc186) rfl ?_
                                                          refine e_iinc (L2 := [some (.ref 4000000), some (.ref 0), some (.ref 73), some (.int (x3 + (6 : Int32)))]) hm_245 rfl kc_iinc_6 rfl rfl ?_
                                                          refine e_goto (t := 18) hm_245 rfl rfl ?_
                                                          exact e_forget (L' := [some (.ref 4000000), some (.ref 0), some (.ref 73), some (.int (x3 + (6 : Int32)))]) (lf_k (lf_k (lf_k (lf_k lf_0)))) (ih (x3 + (6 : Int32)) y185.2 Q hf hq)
                                                        · rw [if_neg hc186] at hf
                                                          refine e_ic_f hm_245 rfl (cf_eq hc186) ?_
                                                          refine e_iconst hm_245 rfl kc_iconst_0 ?_
                                                          obtain rfl := Option.some.inj hf
                                                          exact e_zret hm_245 rfl rfl (by decide) hq
                                                      · rw [if_neg hc173] at hf
                                                        by_cases hc187 : ((Z.2 x3.toNatClampNeg) &&& (31 : Int32)) = (25 : Int32)
                                                        · rw [if_pos hc187] at hf
                                                          refine e_tsw (t := 902) hm_245 rfl (by rw [hc187]; rfl) ?_
                                                          refine e_aload_n hm_245 rfl rfl ?_
                                                          refine e_aload_n hm_245 rfl rfl ?_
                                                          refine e_iload_n hm_245 rfl rfl ?_
                                                          refine e_iconst hm_245 rfl kc_iconst_1 ?_
                                                          refine e_iadd hm_245 rfl ?_
                                                          obtain ⟨hi188, hf⟩ := mm_ite hf
                                                          refine e_siald hm_245 rfl rfl rfl hi188 ?_
                                                          refine e_aload_n hm_245 rfl rfl ?_
                                                          refine e_iload_n hm_245 rfl rfl ?_
                                                          refine e_iconst hm_245 rfl kc_iconst_2 ?_
                                                          refine e_iadd hm_245 rfl ?_
                                                          obtain ⟨hi189, hf⟩ := mm_ite hf
                                                          refine e_siald hm_245 rfl rfl rfl hi189 ?_
                                                          refine e_aload_n hm_245 rfl rfl ?_
                                                          refine e_iload_n hm_245 rfl rfl ?_
                                                          refine e_iconst hm_245 rfl kc_iconst_3 ?_
                                                          refine e_iadd hm_245 rfl ?_
                                                          obtain ⟨hi190, hf⟩ := mm_ite hf
                                                          refine e_siald hm_245 rfl rfl rfl hi190 ?_
                                                          refine e_aload_n hm_245 rfl rfl ?_
                                                          refine e_iload_n hm_245 rfl rfl ?_
                                                          refine e_iconst hm_245 rfl kc_iconst_4 ?_
                                                          refine e_iadd hm_245 rfl ?_
                                                          obtain ⟨hi191, hf⟩ := mm_ite hf
                                                          refine e_siald hm_245 rfl rfl rfl hi191 ?_
                                                          obtain ⟨y192, hky192, hf⟩ := mm_bd hf
                                                          refine e_virt hm_245 rfl rfl rfl rfl (Nat.le_of_ble_eq_true rfl) hm_163 rfl rfl (c_163 (Z.2 (x3 + (1 : Int32)).toNatClampNeg) (Z.2 (x3 + (2 : Int32)).toNatClampNeg) (Z.2 (x3 + (3 : Int32)).toNatClampNeg) (Z.2 (x3 + (4 : Int32)).toNatClampNeg) M hky192 ?_)
                                                          show Ev Z _ 245 926 [some (.ref 4000000), some (.ref 0), some (.ref 73), some (.int x3)] [.int y192.1] (mm_H y192.2) Q
                                                          refine e_aload_n hm_245 rfl rfl ?_
                                                          refine e_aload_n hm_245 rfl rfl ?_
                                                          refine e_iload_n hm_245 rfl rfl ?_
                                                          refine e_iconst hm_245 rfl kc_iconst_1 ?_
                                                          refine e_iadd hm_245 rfl ?_
                                                          obtain ⟨hi193, hf⟩ := mm_ite hf
                                                          refine e_siald hm_245 rfl rfl rfl hi193 ?_
                                                          refine e_aload_n hm_245 rfl rfl ?_
                                                          refine e_iload_n hm_245 rfl rfl ?_
                                                          refine e_iconst hm_245 rfl kc_iconst_2 ?_
                                                          refine e_iadd hm_245 rfl ?_
                                                          obtain ⟨hi194, hf⟩ := mm_ite hf
                                                          refine e_siald hm_245 rfl rfl rfl hi194 ?_
                                                          refine e_aload_n hm_245 rfl rfl ?_
                                                          refine e_iload_n hm_245 rfl rfl ?_
                                                          refine e_iconst hm_245 rfl kc_iconst_3 ?_
                                                          refine e_iadd hm_245 rfl ?_
                                                          obtain ⟨hi195, hf⟩ := mm_ite hf
                                                          refine e_siald hm_245 rfl rfl rfl hi195 ?_
                                                          refine e_aload_n hm_245 rfl rfl ?_
                                                          refine e_iload_n hm_245 rfl rfl ?_
                                                          refine e_iconst hm_245 rfl kc_iconst_4 ?_
                                                          refine e_iadd hm_245 rfl ?_
                                                          obtain ⟨hi196, hf⟩ := mm_ite hf
                                                          refine e_siald hm_245 rfl rfl rfl hi196 ?_
                                                          obtain ⟨y197, hky197, hf⟩ := mm_bd hf
                                                          refine e_virt hm_245 rfl rfl rfl rfl (Nat.le_of_ble_eq_true rfl) hm_242 rfl rfl (c_242 (Z.2 (x3 + (1 : Int32)).toNatClampNeg) (Z.2 (x3 + (2 : Int32)).toNatClampNeg) (Z.2 (x3 + (3 : Int32)).toNatClampNeg) (Z.2 (x3 + (4 : Int32)).toNatClampNeg) y192.2 hky197 ?_)
                                                          show Ev Z _ 245 950 [some (.ref 4000000), some (.ref 0), some (.ref 73), some (.int x3)] [.int y197.1, .int y192.1] (mm_H y197.2) Q
                                                          by_cases hc198 : y192.1 = y197.1
                                                          · rw [if_pos hc198] at hf
                                                            refine e_ic_t (t := 988) hm_245 rfl (ct_eq hc198) rfl ?_
                                                            refine e_iinc (L2 := [some (.ref 4000000), some (.ref 0), some (.ref 73), some (.int (x3 + (6 : Int32)))]) hm_245 rfl kc_iinc_6 rfl rfl ?_
                                                            refine e_goto (t := 18) hm_245 rfl rfl ?_
                                                            exact e_forget (L' := [some (.ref 4000000), some (.ref 0), some (.ref 73), some (.int (x3 + (6 : Int32)))]) (lf_k (lf_k (lf_k (lf_k lf_0)))) (ih (x3 + (6 : Int32)) y197.2 Q hf hq)
                                                          · rw [if_neg hc198] at hf
                                                            refine e_ic_f hm_245 rfl (cf_eq hc198) ?_
                                                            refine e_iconst hm_245 rfl kc_iconst_0 ?_
                                                            obtain rfl := Option.some.inj hf
                                                            exact e_zret hm_245 rfl rfl (by decide) hq
                                                        · rw [if_neg hc187] at hf
                                                          by_cases hc199 : ((Z.2 x3.toNatClampNeg) &&& (31 : Int32)) = (26 : Int32)
                                                          · rw [if_pos hc199] at hf
                                                            refine e_tsw (t := 955) hm_245 rfl (by rw [hc199]; rfl) ?_
                                                            refine e_aload_n hm_245 rfl rfl ?_
                                                            refine e_aload_n hm_245 rfl rfl ?_
                                                            refine e_iload_n hm_245 rfl rfl ?_
                                                            refine e_iconst hm_245 rfl kc_iconst_1 ?_
                                                            refine e_iadd hm_245 rfl ?_
                                                            obtain ⟨hi200, hf⟩ := mm_ite hf
                                                            refine e_siald hm_245 rfl rfl rfl hi200 ?_
                                                            refine e_aload_n hm_245 rfl rfl ?_
                                                            refine e_iload_n hm_245 rfl rfl ?_
                                                            refine e_iconst hm_245 rfl kc_iconst_2 ?_
                                                            refine e_iadd hm_245 rfl ?_
                                                            obtain ⟨hi201, hf⟩ := mm_ite hf
                                                            refine e_siald hm_245 rfl rfl rfl hi201 ?_
                                                            obtain ⟨y202, hky202, hf⟩ := mm_bd hf
                                                            refine e_virt hm_245 rfl rfl rfl rfl (Nat.le_of_ble_eq_true rfl) hm_164 rfl rfl (c_164 (Z.2 (x3 + (1 : Int32)).toNatClampNeg) (Z.2 (x3 + (2 : Int32)).toNatClampNeg) M hky202 ?_)
                                                            show Ev Z _ 245 969 [some (.ref 4000000), some (.ref 0), some (.ref 73), some (.int x3)] [.int y202.1] (mm_H y202.2) Q
                                                            refine e_aload_n hm_245 rfl rfl ?_
                                                            refine e_aload_n hm_245 rfl rfl ?_
                                                            refine e_iload_n hm_245 rfl rfl ?_
                                                            refine e_iconst hm_245 rfl kc_iconst_1 ?_
                                                            refine e_iadd hm_245 rfl ?_
                                                            obtain ⟨hi203, hf⟩ := mm_ite hf
                                                            refine e_siald hm_245 rfl rfl rfl hi203 ?_
                                                            refine e_aload_n hm_245 rfl rfl ?_
                                                            refine e_iload_n hm_245 rfl rfl ?_
                                                            refine e_iconst hm_245 rfl kc_iconst_2 ?_
                                                            refine e_iadd hm_245 rfl ?_
                                                            obtain ⟨hi204, hf⟩ := mm_ite hf
                                                            refine e_siald hm_245 rfl rfl rfl hi204 ?_
                                                            obtain ⟨y205, hky205, hf⟩ := mm_bd hf
                                                            refine e_virt hm_245 rfl rfl rfl rfl (Nat.le_of_ble_eq_true rfl) hm_243 rfl rfl (c_243 (Z.2 (x3 + (1 : Int32)).toNatClampNeg) (Z.2 (x3 + (2 : Int32)).toNatClampNeg) y202.2 hky205 ?_)
                                                            show Ev Z _ 245 983 [some (.ref 4000000), some (.ref 0), some (.ref 73), some (.int x3)] [.int y205.1, .int y202.1] (mm_H y205.2) Q
                                                            by_cases hc206 : y202.1 = y205.1
                                                            · rw [if_pos hc206] at hf
                                                              refine e_ic_t (t := 988) hm_245 rfl (ct_eq hc206) rfl ?_
                                                              refine e_iinc (L2 := [some (.ref 4000000), some (.ref 0), some (.ref 73), some (.int (x3 + (6 : Int32)))]) hm_245 rfl kc_iinc_6 rfl rfl ?_
                                                              refine e_goto (t := 18) hm_245 rfl rfl ?_
                                                              exact e_forget (L' := [some (.ref 4000000), some (.ref 0), some (.ref 73), some (.int (x3 + (6 : Int32)))]) (lf_k (lf_k (lf_k (lf_k lf_0)))) (ih (x3 + (6 : Int32)) y205.2 Q hf hq)
                                                            · rw [if_neg hc206] at hf
                                                              refine e_ic_f hm_245 rfl (cf_eq hc206) ?_
                                                              refine e_iconst hm_245 rfl kc_iconst_0 ?_
                                                              obtain rfl := Option.some.inj hf
                                                              exact e_zret hm_245 rfl rfl (by decide) hq
                                                          · rw [if_neg hc199] at hf
                                                            have khc3 := i32_ne hc3
                                                            have khc13 := i32_ne hc13
                                                            have khc23 := i32_ne hc23
                                                            have khc33 := i32_ne hc33
                                                            have khc41 := i32_ne hc41
                                                            have khc49 := i32_ne hc49
                                                            have khc55 := i32_ne hc55
                                                            have khc59 := i32_ne hc59
                                                            have khc65 := i32_ne hc65
                                                            have khc71 := i32_ne hc71
                                                            have khc75 := i32_ne hc75
                                                            have khc81 := i32_ne hc81
                                                            have khc87 := i32_ne hc87
                                                            have khc93 := i32_ne hc93
                                                            have khc101 := i32_ne hc101
                                                            have khc105 := i32_ne hc105
                                                            have khc115 := i32_ne hc115
                                                            have khc123 := i32_ne hc123
                                                            have khc129 := i32_ne hc129
                                                            have khc139 := i32_ne hc139
                                                            have khc143 := i32_ne hc143
                                                            have khc147 := i32_ne hc147
                                                            have khc153 := i32_ne hc153
                                                            have khc163 := i32_ne hc163
                                                            have khc173 := i32_ne hc173
                                                            have khc187 := i32_ne hc187
                                                            have khc199 := i32_ne hc199
                                                            rw [show ((0 : Int32) : Int32).toInt = 0 from rfl] at khc3
                                                            rw [show ((1 : Int32) : Int32).toInt = 1 from rfl] at khc13
                                                            rw [show ((2 : Int32) : Int32).toInt = 2 from rfl] at khc23
                                                            rw [show ((3 : Int32) : Int32).toInt = 3 from rfl] at khc33
                                                            rw [show ((4 : Int32) : Int32).toInt = 4 from rfl] at khc41
                                                            rw [show ((5 : Int32) : Int32).toInt = 5 from rfl] at khc49
                                                            rw [show ((6 : Int32) : Int32).toInt = 6 from rfl] at khc55
                                                            rw [show ((7 : Int32) : Int32).toInt = 7 from rfl] at khc59
                                                            rw [show ((8 : Int32) : Int32).toInt = 8 from rfl] at khc65
                                                            rw [show ((9 : Int32) : Int32).toInt = 9 from rfl] at khc71
                                                            rw [show ((10 : Int32) : Int32).toInt = 10 from rfl] at khc75
                                                            rw [show ((11 : Int32) : Int32).toInt = 11 from rfl] at khc81
                                                            rw [show ((12 : Int32) : Int32).toInt = 12 from rfl] at khc87
                                                            rw [show ((13 : Int32) : Int32).toInt = 13 from rfl] at khc93
                                                            rw [show ((14 : Int32) : Int32).toInt = 14 from rfl] at khc101
                                                            rw [show ((15 : Int32) : Int32).toInt = 15 from rfl] at khc105
                                                            rw [show ((16 : Int32) : Int32).toInt = 16 from rfl] at khc115
                                                            rw [show ((17 : Int32) : Int32).toInt = 17 from rfl] at khc123
                                                            rw [show ((18 : Int32) : Int32).toInt = 18 from rfl] at khc129
                                                            rw [show ((19 : Int32) : Int32).toInt = 19 from rfl] at khc139
                                                            rw [show ((20 : Int32) : Int32).toInt = 20 from rfl] at khc143
                                                            rw [show ((21 : Int32) : Int32).toInt = 21 from rfl] at khc147
                                                            rw [show ((22 : Int32) : Int32).toInt = 22 from rfl] at khc153
                                                            rw [show ((23 : Int32) : Int32).toInt = 23 from rfl] at khc163
                                                            rw [show ((24 : Int32) : Int32).toInt = 24 from rfl] at khc173
                                                            rw [show ((25 : Int32) : Int32).toInt = 25 from rfl] at khc187
                                                            rw [show ((26 : Int32) : Int32).toInt = 26 from rfl] at khc199
                                                            refine e_tsw (t := 988) hm_245 rfl (tsw_out (by omega) rfl) ?_
                                                            refine e_iinc (L2 := [some (.ref 4000000), some (.ref 0), some (.ref 73), some (.int (x3 + (6 : Int32)))]) hm_245 rfl kc_iinc_6 rfl rfl ?_
                                                            refine e_goto (t := 18) hm_245 rfl rfl ?_
                                                            exact e_forget (L' := [some (.ref 4000000), some (.ref 0), some (.ref 73), some (.int (x3 + (6 : Int32)))]) (lf_k (lf_k (lf_k (lf_k lf_0)))) (ih (x3 + (6 : Int32)) M Q hf hq)
def law_law (Z : ak_Z) (M : mm_M) : Option (Int32 × mm_M) :=
  (law_law_l18 Z 600 (0 : Int32) M).bind fun y1 => match y1 with
  | .inl y1r => some y1r
  | .inr y1v => some ((1 : Int32), y1v.2)
set_option maxRecDepth 20000 in
set_option maxHeartbeats 4000000 in
theorem c_law {Z : ak_Z} {d : Nat} (M : mm_M) {y : Int32 × mm_M} (hf : law_law Z M = some y) {Q : Option Value → ak_H → Prop} (hq : Q (some (.int y.1)) (mm_H y.2)) : Ev Z (d + 73) 245 16 [some (.ref 4000000), some (.ref 0), some (.ref 73), none] [] (mm_H M) Q := by
  rw [law_law] at hf
  refine e_iconst hm_245 rfl kc_iconst_0 ?_
  refine e_istore_n (L2 := [some (.ref 4000000), some (.ref 0), some (.ref 73), some (.int (0 : Int32))]) hm_245 rfl rfl ?_
  obtain ⟨y1, hky1, hf⟩ := mm_bd hf
  refine e_forget (L' := [some (.ref 4000000), some (.ref 0), some (.ref 73), some (.int (0 : Int32))]) (lf_k (lf_k (lf_k (lf_k lf_0)))) (lc_245_18 (d := _) 600 (0 : Int32) M Q hky1 ?_)
  rcases y1 with y1r | y1v
  · obtain rfl := Option.some.inj hf
    exact hq
  · show Ev Z _ 245 994 [none, none, none, none] [] (mm_H y1v.2) Q
    refine e_iconst hm_245 rfl kc_iconst_1 ?_
    obtain rfl := Option.some.inj hf
    exact e_zret hm_245 rfl rfl (by decide) hq
