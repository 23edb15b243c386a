/-! ===== the law's loop (printed by gen4.py) ===== -/
def x_law_L (o q L : Nat) (xs : Nat → Int32) : Nat → Int32 → CS → MS → Option Int32
  | 0, _, _, _ => none
  | n + 1, v0, w, mm =>
    if (((nI L) - 7) : Int32) < v0 then
      some (1 : Int32)
    else
      if vR v0 L then
      if ((xs v0.toNatClampNeg) &&& 31).toInt = 0 then
        if vR (v0 + 1) L then
        if vR (v0 + 2) L then
        b2 (x_L_open o (xs (v0 + 1).toNatClampNeg) (xs (v0 + 2).toNatClampNeg) q w) (fun (v6 : Int32) (w7 : CS) =>
        if vR (v0 + 1) L then
        if vR (v0 + 2) L then
        b2 (x_X7_open (xs (v0 + 1).toNatClampNeg) (xs (v0 + 2).toNatClampNeg) mm) (fun (v11 : Int32) (m12 : MS) =>
        bd (x_X7_thrown m12) (fun (v14 : Int32) =>
        if (v14 : Int32) = v6 then
          if (v6 : Int32) = 0 then
            if wJ w7 0 q = 15 then
            if vR 0 (wJ w7 1 q) then
            if ((lg_cmp (wM w7 q (0 : Int32).toNatClampNeg) v11.toInt64) : Int32) = 0 then
              x_law_L o q L xs n (v0 + 7) w7 m12
            else
              some (0 : Int32)
            else none
            else none
          else
            x_law_L o q L xs n (v0 + 7) w7 m12
        else
          some (0 : Int32)))
        else none
        else none)
        else none
        else none
      else
      if ((xs v0.toNatClampNeg) &&& 31).toInt = 1 then
        if vR (v0 + 1) L then
        b2 (x_L_close o (xs (v0 + 1).toNatClampNeg) q w) (fun (v22 : Int32) (w23 : CS) =>
        if vR (v0 + 1) L then
        b2 (x_X7_close (xs (v0 + 1).toNatClampNeg) mm) (fun (v26 : Int32) (m27 : MS) =>
        bd (x_X7_thrown m27) (fun (v29 : Int32) =>
        if (v29 : Int32) = v22 then
          if (v22 : Int32) = 0 then
            if wJ w23 0 q = 15 then
            if vR 0 (wJ w23 1 q) then
            if ((lg_cmp (wM w23 q (0 : Int32).toNatClampNeg) v26.toInt64) : Int32) = 0 then
              x_law_L o q L xs n (v0 + 7) w23 m27
            else
              some (0 : Int32)
            else none
            else none
          else
            x_law_L o q L xs n (v0 + 7) w23 m27
        else
          some (0 : Int32)))
        else none)
        else none
      else
      if ((xs v0.toNatClampNeg) &&& 31).toInt = 2 then
        if vR (v0 + 1) L then
        b2 (x_L_state o (xs (v0 + 1).toNatClampNeg) q w) (fun (v37 : Int32) (w38 : CS) =>
        if vR (v0 + 1) L then
        b2 (x_X7_state (xs (v0 + 1).toNatClampNeg) mm) (fun (v41 : Int32) (m42 : MS) =>
        bd (x_X7_thrown m42) (fun (v44 : Int32) =>
        if (v44 : Int32) = v37 then
          if (v37 : Int32) = 0 then
            if wJ w38 0 q = 15 then
            if vR 0 (wJ w38 1 q) then
            if ((lg_cmp (wM w38 q (0 : Int32).toNatClampNeg) v41.toInt64) : Int32) = 0 then
              x_law_L o q L xs n (v0 + 7) w38 m42
            else
              some (0 : Int32)
            else none
            else none
          else
            x_law_L o q L xs n (v0 + 7) w38 m42
        else
          some (0 : Int32)))
        else none)
        else none
      else
      if ((xs v0.toNatClampNeg) &&& 31).toInt = 3 then
        if wJ w 0 o = 6 then
        bd (x_X6_version o w) (fun (v51 : Int32) =>
        b2 (x_X7_version mm) (fun (v54 : Int32) (m55 : MS) =>
        if (v51 : Int32) = v54 then
          x_law_L o q L xs n (v0 + 7) w m55
        else
          some (0 : Int32)))
        else none
      else
      if ((xs v0.toNatClampNeg) &&& 31).toInt = 4 then
        if wJ w 0 o = 6 then
        bd (x_X6_upgrade o w) (fun (v58 : Int32) =>
        b2 (x_X7_upgrade mm) (fun (v61 : Int32) (m62 : MS) =>
        if (v58 : Int32) = v61 then
          x_law_L o q L xs n (v0 + 7) w m62
        else
          some (0 : Int32)))
        else none
      else
      if ((xs v0.toNatClampNeg) &&& 31).toInt = 5 then
        if vR (v0 + 1) L then
        if vR (v0 + 2) L then
        b2 (x_L_makeStore o (xs (v0 + 1).toNatClampNeg) (xs (v0 + 2).toNatClampNeg) w) (fun (v67 : Int32) (w68 : CS) =>
        if vR (v0 + 1) L then
        if vR (v0 + 2) L then
        bd (x_X7_makeStore (xs (v0 + 1).toNatClampNeg) (xs (v0 + 2).toNatClampNeg) mm) (fun (m72 : MS) =>
        bd (x_X7_thrown m72) (fun (v74 : Int32) =>
        if (v74 : Int32) = v67 then
          x_law_L o q L xs n (v0 + 7) w68 m72
        else
          some (0 : Int32)))
        else none
        else none)
        else none
        else none
      else
      if ((xs v0.toNatClampNeg) &&& 31).toInt = 6 then
        if vR (v0 + 1) L then
        if vR (v0 + 2) L then
        b2 (x_L_deleteStore o (xs (v0 + 1).toNatClampNeg) (xs (v0 + 2).toNatClampNeg) q w) (fun (v79 : Int32) (w80 : CS) =>
        if vR (v0 + 1) L then
        if vR (v0 + 2) L then
        b2 (x_X7_deleteStore (xs (v0 + 1).toNatClampNeg) (xs (v0 + 2).toNatClampNeg) mm) (fun (v84 : Int32) (m85 : MS) =>
        bd (x_X7_thrown m85) (fun (v87 : Int32) =>
        if (v87 : Int32) = v79 then
          if (v79 : Int32) = 0 then
            if wJ w80 0 q = 15 then
            if vR 0 (wJ w80 1 q) then
            if ((lg_cmp (wM w80 q (0 : Int32).toNatClampNeg) v84.toInt64) : Int32) = 0 then
              x_law_L o q L xs n (v0 + 7) w80 m85
            else
              some (0 : Int32)
            else none
            else none
          else
            x_law_L o q L xs n (v0 + 7) w80 m85
        else
          some (0 : Int32)))
        else none
        else none)
        else none
        else none
      else
      if ((xs v0.toNatClampNeg) &&& 31).toInt = 7 then
        if vR (v0 + 1) L then
        if vR (v0 + 2) L then
        if vR (v0 + 3) L then
        if vR (v0 + 4) L then
        if ((xs (v0 + 4).toNatClampNeg) : Int32) = 0 then
          b2 (x_L_makeIndex o (xs (v0 + 1).toNatClampNeg) (xs (v0 + 2).toNatClampNeg) (xs (v0 + 3).toNatClampNeg) 0 w) (fun (v99 : Int32) (w100 : CS) =>
          if vR (v0 + 1) L then
          if vR (v0 + 2) L then
          if vR (v0 + 3) L then
          if vR (v0 + 4) L then
          if ((xs (v0 + 4).toNatClampNeg) : Int32) = 0 then
            bd (x_X7_makeIndex (xs (v0 + 1).toNatClampNeg) (xs (v0 + 2).toNatClampNeg) (xs (v0 + 3).toNatClampNeg) 0 mm) (fun (m107 : MS) =>
            bd (x_X7_thrown m107) (fun (v109 : Int32) =>
            if (v109 : Int32) = v99 then
              x_law_L o q L xs n (v0 + 7) w100 m107
            else
              some (0 : Int32)))
          else
            bd (x_X7_makeIndex (xs (v0 + 1).toNatClampNeg) (xs (v0 + 2).toNatClampNeg) (xs (v0 + 3).toNatClampNeg) 1 mm) (fun (m112 : MS) =>
            bd (x_X7_thrown m112) (fun (v114 : Int32) =>
            if (v114 : Int32) = v99 then
              x_law_L o q L xs n (v0 + 7) w100 m112
            else
              some (0 : Int32)))
          else none
          else none
          else none
          else none)
        else
          b2 (x_L_makeIndex o (xs (v0 + 1).toNatClampNeg) (xs (v0 + 2).toNatClampNeg) (xs (v0 + 3).toNatClampNeg) 1 w) (fun (v117 : Int32) (w118 : CS) =>
          if vR (v0 + 1) L then
          if vR (v0 + 2) L then
          if vR (v0 + 3) L then
          if vR (v0 + 4) L then
          if ((xs (v0 + 4).toNatClampNeg) : Int32) = 0 then
            bd (x_X7_makeIndex (xs (v0 + 1).toNatClampNeg) (xs (v0 + 2).toNatClampNeg) (xs (v0 + 3).toNatClampNeg) 0 mm) (fun (m125 : MS) =>
            bd (x_X7_thrown m125) (fun (v127 : Int32) =>
            if (v127 : Int32) = v117 then
              x_law_L o q L xs n (v0 + 7) w118 m125
            else
              some (0 : Int32)))
          else
            bd (x_X7_makeIndex (xs (v0 + 1).toNatClampNeg) (xs (v0 + 2).toNatClampNeg) (xs (v0 + 3).toNatClampNeg) 1 mm) (fun (m130 : MS) =>
            bd (x_X7_thrown m130) (fun (v132 : Int32) =>
            if (v132 : Int32) = v117 then
              x_law_L o q L xs n (v0 + 7) w118 m130
            else
              some (0 : Int32)))
          else none
          else none
          else none
          else none)
        else none
        else none
        else none
        else none
      else
      if ((xs v0.toNatClampNeg) &&& 31).toInt = 8 then
        if vR (v0 + 1) L then
        if vR (v0 + 2) L then
        if vR (v0 + 3) L then
        if ((xs (v0 + 3).toNatClampNeg) : Int32) = 0 then
          b2 (x_L_begin o (xs (v0 + 1).toNatClampNeg) (xs (v0 + 2).toNatClampNeg) 0 q w) (fun (v139 : Int32) (w140 : CS) =>
          if vR (v0 + 1) L then
          if vR (v0 + 2) L then
          if vR (v0 + 3) L then
          if ((xs (v0 + 3).toNatClampNeg) : Int32) = 0 then
            b2 (x_X7_begin (xs (v0 + 1).toNatClampNeg) (xs (v0 + 2).toNatClampNeg) 0 mm) (fun (v146 : Int32) (m147 : MS) =>
            bd (x_X7_thrown m147) (fun (v149 : Int32) =>
            if (v149 : Int32) = v139 then
              if (v139 : Int32) = 0 then
                if wJ w140 0 q = 15 then
                if vR 0 (wJ w140 1 q) then
                if ((lg_cmp (wM w140 q (0 : Int32).toNatClampNeg) v146.toInt64) : Int32) = 0 then
                  x_law_L o q L xs n (v0 + 7) w140 m147
                else
                  some (0 : Int32)
                else none
                else none
              else
                x_law_L o q L xs n (v0 + 7) w140 m147
            else
              some (0 : Int32)))
          else
            b2 (x_X7_begin (xs (v0 + 1).toNatClampNeg) (xs (v0 + 2).toNatClampNeg) 1 mm) (fun (v156 : Int32) (m157 : MS) =>
            bd (x_X7_thrown m157) (fun (v159 : Int32) =>
            if (v159 : Int32) = v139 then
              if (v139 : Int32) = 0 then
                if wJ w140 0 q = 15 then
                if vR 0 (wJ w140 1 q) then
                if ((lg_cmp (wM w140 q (0 : Int32).toNatClampNeg) v156.toInt64) : Int32) = 0 then
                  x_law_L o q L xs n (v0 + 7) w140 m157
                else
                  some (0 : Int32)
                else none
                else none
              else
                x_law_L o q L xs n (v0 + 7) w140 m157
            else
              some (0 : Int32)))
          else none
          else none
          else none)
        else
          b2 (x_L_begin o (xs (v0 + 1).toNatClampNeg) (xs (v0 + 2).toNatClampNeg) 1 q w) (fun (v166 : Int32) (w167 : CS) =>
          if vR (v0 + 1) L then
          if vR (v0 + 2) L then
          if vR (v0 + 3) L then
          if ((xs (v0 + 3).toNatClampNeg) : Int32) = 0 then
            b2 (x_X7_begin (xs (v0 + 1).toNatClampNeg) (xs (v0 + 2).toNatClampNeg) 0 mm) (fun (v173 : Int32) (m174 : MS) =>
            bd (x_X7_thrown m174) (fun (v176 : Int32) =>
            if (v176 : Int32) = v166 then
              if (v166 : Int32) = 0 then
                if wJ w167 0 q = 15 then
                if vR 0 (wJ w167 1 q) then
                if ((lg_cmp (wM w167 q (0 : Int32).toNatClampNeg) v173.toInt64) : Int32) = 0 then
                  x_law_L o q L xs n (v0 + 7) w167 m174
                else
                  some (0 : Int32)
                else none
                else none
              else
                x_law_L o q L xs n (v0 + 7) w167 m174
            else
              some (0 : Int32)))
          else
            b2 (x_X7_begin (xs (v0 + 1).toNatClampNeg) (xs (v0 + 2).toNatClampNeg) 1 mm) (fun (v183 : Int32) (m184 : MS) =>
            bd (x_X7_thrown m184) (fun (v186 : Int32) =>
            if (v186 : Int32) = v166 then
              if (v166 : Int32) = 0 then
                if wJ w167 0 q = 15 then
                if vR 0 (wJ w167 1 q) then
                if ((lg_cmp (wM w167 q (0 : Int32).toNatClampNeg) v183.toInt64) : Int32) = 0 then
                  x_law_L o q L xs n (v0 + 7) w167 m184
                else
                  some (0 : Int32)
                else none
                else none
              else
                x_law_L o q L xs n (v0 + 7) w167 m184
            else
              some (0 : Int32)))
          else none
          else none
          else none)
        else none
        else none
        else none
      else
      if ((xs v0.toNatClampNeg) &&& 31).toInt = 9 then
        if vR (v0 + 1) L then
        b2 (x_L_standing o (xs (v0 + 1).toNatClampNeg) q w) (fun (v194 : Int32) (w195 : CS) =>
        if vR (v0 + 1) L then
        b2 (x_X7_standing (xs (v0 + 1).toNatClampNeg) mm) (fun (v198 : Int32) (m199 : MS) =>
        bd (x_X7_thrown m199) (fun (v201 : Int32) =>
        if (v201 : Int32) = v194 then
          if (v194 : Int32) = 0 then
            if wJ w195 0 q = 15 then
            if vR 0 (wJ w195 1 q) then
            if ((lg_cmp (wM w195 q (0 : Int32).toNatClampNeg) v198.toInt64) : Int32) = 0 then
              x_law_L o q L xs n (v0 + 7) w195 m199
            else
              some (0 : Int32)
            else none
            else none
          else
            x_law_L o q L xs n (v0 + 7) w195 m199
        else
          some (0 : Int32)))
        else none)
        else none
      else
      if ((xs v0.toNatClampNeg) &&& 31).toInt = 10 then
        if vR (v0 + 1) L then
        b2 (x_L_commit o (xs (v0 + 1).toNatClampNeg) q w) (fun (v209 : Int32) (w210 : CS) =>
        if vR (v0 + 1) L then
        b2 (x_X7_commit (xs (v0 + 1).toNatClampNeg) mm) (fun (v213 : Int32) (m214 : MS) =>
        bd (x_X7_thrown m214) (fun (v216 : Int32) =>
        if (v216 : Int32) = v209 then
          if (v209 : Int32) = 0 then
            if wJ w210 0 q = 15 then
            if vR 0 (wJ w210 1 q) then
            if ((lg_cmp (wM w210 q (0 : Int32).toNatClampNeg) v213.toInt64) : Int32) = 0 then
              x_law_L o q L xs n (v0 + 7) w210 m214
            else
              some (0 : Int32)
            else none
            else none
          else
            x_law_L o q L xs n (v0 + 7) w210 m214
        else
          some (0 : Int32)))
        else none)
        else none
      else
      if ((xs v0.toNatClampNeg) &&& 31).toInt = 11 then
        if vR (v0 + 1) L then
        b2 (x_L_abort o (xs (v0 + 1).toNatClampNeg) q w) (fun (v224 : Int32) (w225 : CS) =>
        if vR (v0 + 1) L then
        b2 (x_X7_abort (xs (v0 + 1).toNatClampNeg) mm) (fun (v228 : Int32) (m229 : MS) =>
        bd (x_X7_thrown m229) (fun (v231 : Int32) =>
        if (v231 : Int32) = v224 then
          if (v224 : Int32) = 0 then
            if wJ w225 0 q = 15 then
            if vR 0 (wJ w225 1 q) then
            if ((lg_cmp (wM w225 q (0 : Int32).toNatClampNeg) v228.toInt64) : Int32) = 0 then
              x_law_L o q L xs n (v0 + 7) w225 m229
            else
              some (0 : Int32)
            else none
            else none
          else
            x_law_L o q L xs n (v0 + 7) w225 m229
        else
          some (0 : Int32)))
        else none)
        else none
      else
      if ((xs v0.toNatClampNeg) &&& 31).toInt = 12 then
        if vR (v0 + 1) L then
        if vR (v0 + 2) L then
        if vR (v0 + 3) L then
        if vR (v0 + 4) L then
        if vR (v0 + 5) L then
        if vR (v0 + 6) L then
        b2 (x_L_put o (xs (v0 + 1).toNatClampNeg) (xs (v0 + 2).toNatClampNeg) (xs (v0 + 3).toNatClampNeg) (xs (v0 + 4).toNatClampNeg) (xs (v0 + 5).toNatClampNeg) (xs (v0 + 6).toNatClampNeg) q w) (fun (v244 : Int32) (w245 : CS) =>
        if vR (v0 + 1) L then
        if vR (v0 + 2) L then
        if vR (v0 + 3) L then
        if vR (v0 + 4) L then
        if vR (v0 + 5) L then
        if vR (v0 + 6) L then
        b2 (x_X7_put (xs (v0 + 1).toNatClampNeg) (xs (v0 + 2).toNatClampNeg) (xs (v0 + 3).toNatClampNeg) (xs (v0 + 4).toNatClampNeg) (xs (v0 + 5).toNatClampNeg) (xs (v0 + 6).toNatClampNeg) mm) (fun (v253 : Int32) (m254 : MS) =>
        bd (x_X7_thrown m254) (fun (v256 : Int32) =>
        if (v256 : Int32) = v244 then
          if (v244 : Int32) = 0 then
            if wJ w245 0 q = 15 then
            if vR 0 (wJ w245 1 q) then
            if (v253 : Int32) = 0 then
              if ((lg_cmp (wM w245 q (0 : Int32).toNatClampNeg) 0) : Int32) = 0 then
                x_law_L o q L xs n (v0 + 7) w245 m254
              else
                some (0 : Int32)
            else
              if ((lg_cmp (wM w245 q (0 : Int32).toNatClampNeg) 1) : Int32) = 0 then
                x_law_L o q L xs n (v0 + 7) w245 m254
              else
                some (0 : Int32)
            else none
            else none
          else
            x_law_L o q L xs n (v0 + 7) w245 m254
        else
          some (0 : Int32)))
        else none
        else none
        else none
        else none
        else none
        else none)
        else none
        else none
        else none
        else none
        else none
        else none
      else
      if ((xs v0.toNatClampNeg) &&& 31).toInt = 13 then
        if vR (v0 + 1) L then
        if vR (v0 + 2) L then
        if vR (v0 + 3) L then
        if vR (v0 + 4) L then
        b2 (x_L_remove o (xs (v0 + 1).toNatClampNeg) (xs (v0 + 2).toNatClampNeg) (xs (v0 + 3).toNatClampNeg) (xs (v0 + 4).toNatClampNeg) q w) (fun (v269 : Int32) (w270 : CS) =>
        if vR (v0 + 1) L then
        if vR (v0 + 2) L then
        if vR (v0 + 3) L then
        if vR (v0 + 4) L then
        b2 (x_X7_remove (xs (v0 + 1).toNatClampNeg) (xs (v0 + 2).toNatClampNeg) (xs (v0 + 3).toNatClampNeg) (xs (v0 + 4).toNatClampNeg) mm) (fun (v276 : Int32) (m277 : MS) =>
        bd (x_X7_thrown m277) (fun (v279 : Int32) =>
        if (v279 : Int32) = v269 then
          if (v269 : Int32) = 0 then
            if wJ w270 0 q = 15 then
            if vR 0 (wJ w270 1 q) then
            if ((lg_cmp (wM w270 q (0 : Int32).toNatClampNeg) v276.toInt64) : Int32) = 0 then
              x_law_L o q L xs n (v0 + 7) w270 m277
            else
              some (0 : Int32)
            else none
            else none
          else
            x_law_L o q L xs n (v0 + 7) w270 m277
        else
          some (0 : Int32)))
        else none
        else none
        else none
        else none)
        else none
        else none
        else none
        else none
      else
      if ((xs v0.toNatClampNeg) &&& 31).toInt = 14 then
        if vR (v0 + 1) L then
        if vR (v0 + 2) L then
        if vR (v0 + 3) L then
        b2 (x_L_get o (xs (v0 + 1).toNatClampNeg) (xs (v0 + 2).toNatClampNeg) (xs (v0 + 3).toNatClampNeg) q w) (fun (v289 : Int32) (w290 : CS) =>
        if vR (v0 + 1) L then
        if vR (v0 + 2) L then
        if vR (v0 + 3) L then
        b2 (x_X7_get (xs (v0 + 1).toNatClampNeg) (xs (v0 + 2).toNatClampNeg) (xs (v0 + 3).toNatClampNeg) mm) (fun (v295 : Int32) (m296 : MS) =>
        bd (x_X7_thrown m296) (fun (v298 : Int32) =>
        if (v298 : Int32) = v289 then
          if (v289 : Int32) = 0 then
            if wJ w290 0 q = 15 then
            if vR 0 (wJ w290 1 q) then
            if ((lg_cmp (wM w290 q (0 : Int32).toNatClampNeg) v295.toInt64) : Int32) = 0 then
              x_law_L o q L xs n (v0 + 7) w290 m296
            else
              some (0 : Int32)
            else none
            else none
          else
            x_law_L o q L xs n (v0 + 7) w290 m296
        else
          some (0 : Int32)))
        else none
        else none
        else none)
        else none
        else none
        else none
      else
      if ((xs v0.toNatClampNeg) &&& 31).toInt = 15 then
        if vR (v0 + 1) L then
        if vR (v0 + 2) L then
        if vR (v0 + 3) L then
        if vR (v0 + 4) L then
        b2 (x_L_count o (xs (v0 + 1).toNatClampNeg) (xs (v0 + 2).toNatClampNeg) (xs (v0 + 3).toNatClampNeg) (xs (v0 + 4).toNatClampNeg) q w) (fun (v309 : Int32) (w310 : CS) =>
        if vR (v0 + 1) L then
        if vR (v0 + 2) L then
        if vR (v0 + 3) L then
        if vR (v0 + 4) L then
        b2 (x_X7_count (xs (v0 + 1).toNatClampNeg) (xs (v0 + 2).toNatClampNeg) (xs (v0 + 3).toNatClampNeg) (xs (v0 + 4).toNatClampNeg) mm) (fun (v316 : Int32) (m317 : MS) =>
        bd (x_X7_thrown m317) (fun (v319 : Int32) =>
        if (v319 : Int32) = v309 then
          if (v309 : Int32) = 0 then
            if wJ w310 0 q = 15 then
            if vR 0 (wJ w310 1 q) then
            if ((lg_cmp (wM w310 q (0 : Int32).toNatClampNeg) v316.toInt64) : Int32) = 0 then
              x_law_L o q L xs n (v0 + 7) w310 m317
            else
              some (0 : Int32)
            else none
            else none
          else
            x_law_L o q L xs n (v0 + 7) w310 m317
        else
          some (0 : Int32)))
        else none
        else none
        else none
        else none)
        else none
        else none
        else none
        else none
      else
      if ((xs v0.toNatClampNeg) &&& 31).toInt = 16 then
        if vR (v0 + 1) L then
        if vR (v0 + 2) L then
        if vR (v0 + 3) L then
        if vR (v0 + 4) L then
        b2 (x_L_cursor o (xs (v0 + 1).toNatClampNeg) (xs (v0 + 2).toNatClampNeg) (xs (v0 + 3).toNatClampNeg) (xs (v0 + 4).toNatClampNeg) q w) (fun (v330 : Int32) (w331 : CS) =>
        if vR (v0 + 1) L then
        if vR (v0 + 2) L then
        if vR (v0 + 3) L then
        if vR (v0 + 4) L then
        b2 (x_X7_cursor (xs (v0 + 1).toNatClampNeg) (xs (v0 + 2).toNatClampNeg) (xs (v0 + 3).toNatClampNeg) (xs (v0 + 4).toNatClampNeg) mm) (fun (v337 : Int32) (m338 : MS) =>
        bd (x_X7_thrown m338) (fun (v340 : Int32) =>
        if (v340 : Int32) = v330 then
          if (v330 : Int32) = 0 then
            if wJ w331 0 q = 15 then
            if vR 0 (wJ w331 1 q) then
            if ((lg_cmp (wM w331 q (0 : Int32).toNatClampNeg) v337.toInt64) : Int32) = 0 then
              x_law_L o q L xs n (v0 + 7) w331 m338
            else
              some (0 : Int32)
            else none
            else none
          else
            x_law_L o q L xs n (v0 + 7) w331 m338
        else
          some (0 : Int32)))
        else none
        else none
        else none
        else none)
        else none
        else none
        else none
        else none
      else
      if ((xs v0.toNatClampNeg) &&& 31).toInt = 17 then
        if vR (v0 + 1) L then
        b2 (x_L_step o (xs (v0 + 1).toNatClampNeg) q w) (fun (v348 : Int32) (w349 : CS) =>
        if vR (v0 + 1) L then
        b2 (x_X7_step (xs (v0 + 1).toNatClampNeg) mm) (fun (v352 : Int32) (m353 : MS) =>
        bd (x_X7_thrown m353) (fun (v355 : Int32) =>
        if (v355 : Int32) = v348 then
          if (v348 : Int32) = 0 then
            if wJ w349 0 q = 15 then
            if vR 0 (wJ w349 1 q) then
            if ((lg_cmp (wM w349 q (0 : Int32).toNatClampNeg) v352.toInt64) : Int32) = 0 then
              x_law_L o q L xs n (v0 + 7) w349 m353
            else
              some (0 : Int32)
            else none
            else none
          else
            x_law_L o q L xs n (v0 + 7) w349 m353
        else
          some (0 : Int32)))
        else none)
        else none
      else
      if ((xs v0.toNatClampNeg) &&& 31).toInt = 18 then
        if vR (v0 + 1) L then
        if vR (v0 + 2) L then
        b2 (x_L_update o (xs (v0 + 1).toNatClampNeg) (xs (v0 + 2).toNatClampNeg) q w) (fun (v364 : Int32) (w365 : CS) =>
        if vR (v0 + 1) L then
        if vR (v0 + 2) L then
        b2 (x_X7_update (xs (v0 + 1).toNatClampNeg) (xs (v0 + 2).toNatClampNeg) mm) (fun (v369 : Int32) (m370 : MS) =>
        bd (x_X7_thrown m370) (fun (v372 : Int32) =>
        if (v372 : Int32) = v364 then
          if (v364 : Int32) = 0 then
            if wJ w365 0 q = 15 then
            if vR 0 (wJ w365 1 q) then
            if ((lg_cmp (wM w365 q (0 : Int32).toNatClampNeg) v369.toInt64) : Int32) = 0 then
              x_law_L o q L xs n (v0 + 7) w365 m370
            else
              some (0 : Int32)
            else none
            else none
          else
            x_law_L o q L xs n (v0 + 7) w365 m370
        else
          some (0 : Int32)))
        else none
        else none)
        else none
        else none
      else
      x_law_L o q L xs n (v0 + 7) w mm
      else none
set_option maxHeartbeats 8000000 in
set_option maxRecDepth 100000 in
theorem c_law_L (g : GG) (l : Launch) (hG : XG g) (hC : NC g) (hst : l.stackTraces = false) (hn : gnn g 4 = 1) {p : Program} {e : Env} {s : State} {mi : MethodId} {args : Array Value} {below : List Frame} {meth : Method} {cd : Code} {Q : State → Prop} {b L : Nat} {xs : Nat → Int32} (hX : MX g RL p s mi args cd cL_law 7 wsL_law meth (some .boolean)) (hS : SC g s b L xs) (o q : Nat) (r : Int32)
    (hret : ∀ (T : TW) (H : Heap) (lc : List Loc) (cn sn pc : Nat) (ls : Array Slot) (v : Int32), decode cL_law pc = .ok (.ireturn, 1) → wH g s.heap.size T H lc → v = r → W p l e (rmO g 20 784 s.heap) s mi args below meth cd H lc cn sn Q (F0 mi pc ls [.int v])) :
    ∀ (n : Nat) (v0 : Int32) (w : CS) (mm : MS) (H : Heap) (lc : List Loc) (cn sn : Nat) (ls : Array Slot), x_law_L o q L xs n v0 w mm = some r → wH g s.heap.size (w, mm) H lc → lv_has ls 7 [(0, .ref b), (1, rv o), (2, .ref (gmd g 32)), (3, rv q), (4, .int v0)] → W p l e (rmO g 20 784 s.heap) s mi args below meth cd H lc cn sn Q (F0 mi 23 ls []) := by
  obtain ⟨⟨hx, hb, -, hown, hts⟩, -⟩ := id hX
  intro n
  induction n with
  | zero =>
    intro v0 w mm H lc cn sn ls h
    rw [x_law_L] at h
    cases h
  | succ n ih =>
    intro v0 w mm H lc cn sn ls h hw hl
    rw [x_law_L] at h
    refine lv_iload hx hb dL_law_23 (lv_at hl 4 rfl) ?_
    refine lv_aload_n hx hb dL_law_25 rfl (lv_at hl 0 rfl) ?_
    refine c_slen hX hw hS dL_law_26 ?_
    refine lv_bipush (v := 7) hx hb dL_law_27 (by decide) ?_
    refine lv_isub hx hb dL_law_29 ?_
    refine lv_icmp_gt (tgt := 1417) hx hb dL_law_30 (by decide) (fun c1 => ?_) (fun c1 => ?_)
    · replace h := ot c1 h
      refine lv_iconst (v := 1) hx hb dL_law_1417 (by decide) ?_
      exact hret _ _ _ _ _ _ _ _ dL_law_1418 hw (Option.some.inj h)
    · replace h := oe c1 h
      refine lv_aload_n hx hb dL_law_33 rfl (lv_at hl 0 rfl) ?_
      refine lv_iload hx hb dL_law_34 (lv_at hl 4 rfl) ?_
      obtain ⟨c2, h⟩ := og h
      refine c_sld hX hw hS c2 dL_law_36 ?_
      refine lv_bipush (v := 31) hx hb dL_law_37 (by decide) ?_
      refine lv_iand hx hb dL_law_39 ?_
      refine t_switch (hi := 18) (tg := fun j => ([132, 200, 256, 312, 325, 338, 386, 454, 542, 638, 694, 750, 806, 931, 1023, 1103, 1195, 1287, 1343] : List Nat).getD j 0) (td := 1411) hx hb dL_law_40 rfl (by decide) (by decide) (fun j hj hji => ?_) (fun hout => ?_)
      · rcases (show j = 0 ∨ j = 1 ∨ j = 2 ∨ j = 3 ∨ j = 4 ∨ j = 5 ∨ j = 6 ∨ j = 7 ∨ j = 8 ∨ j = 9 ∨ j = 10 ∨ j = 11 ∨ j = 12 ∨ j = 13 ∨ j = 14 ∨ j = 15 ∨ j = 16 ∨ j = 17 ∨ j = 18 from by omega) with rfl | rfl | rfl | rfl | rfl | rfl | rfl | rfl | rfl | rfl | rfl | rfl | rfl | rfl | rfl | rfl | rfl | rfl | rfl
        · show W p l e (rmO g 20 784 s.heap) s mi args below meth cd H lc cn sn Q (F0 mi 132 ls [])
          replace h := ot hji h
          refine t_aload_n hx hb dL_law_132 rfl (lv_at hl 1 rfl) ?_
          refine lv_aload_n hx hb dL_law_133 rfl (lv_at hl 0 rfl) ?_
          refine lv_iload hx hb dL_law_134 (lv_at hl 4 rfl) ?_
          refine lv_iconst (v := 1) hx hb dL_law_136 (by decide) ?_
          refine lv_iadd hx hb dL_law_137 ?_
          obtain ⟨c3, h⟩ := og h
          refine c_sld hX hw hS c3 dL_law_138 ?_
          refine lv_aload_n hx hb dL_law_139 rfl (lv_at hl 0 rfl) ?_
          refine lv_iload hx hb dL_law_140 (lv_at hl 4 rfl) ?_
          refine lv_iconst (v := 2) hx hb dL_law_142 (by decide) ?_
          refine lv_iadd hx hb dL_law_143 ?_
          obtain ⟨c4, h⟩ := og h
          refine c_sld hX hw hS c4 dL_law_144 ?_
          refine t_aload_n hx hb dL_law_145 rfl (lv_at hl 3 rfl) ?_
          obtain ⟨v6, w7, e5, h⟩ := oc2 h
          refine g_callSWi (n := 4) (As := [rv o, .int (xs (v0 + 1).toNatClampNeg), .int (xs (v0 + 2).toNatClampNeg), rv q]) (rest := []) hX hw (c_L_open g l hG hC hst mm o (xs (v0 + 1).toNatClampNeg) (xs (v0 + 2).toNatClampNeg) q w v6 w7 e5) gL_law_L_open rfl (by decide +kernel) rfl hl.1 rfl (by simp [rv_cat, ct_i, ct_l]) ⟨by decide, by decide⟩ dL_law_146 (fun H lc cn sn hw => ?_)
          refine lv_istore (lv' := [(5, .int v6), (0, .ref b), (1, rv o), (2, .ref (gmd g 32)), (3, rv q), (4, .int v0)]) hx hb dL_law_149 hl (by decide) rfl (fun ls hl => ?_)
          refine lv_aload_n hx hb dL_law_151 rfl (lv_at hl 3 rfl) ?_
          refine lv_aload_n hx hb dL_law_152 rfl (lv_at hl 1 rfl) ?_
          refine lv_iload hx hb dL_law_153 (lv_at hl 5 rfl) ?_
          refine lv_iconst (v := 1) hx hb dL_law_155 (by decide) ?_
          refine lv_iadd hx hb dL_law_156 ?_
          obtain ⟨c8, h⟩ := og h
          refine c_sld hX hw hS c8 dL_law_157 ?_
          refine lv_aload_n hx hb dL_law_158 rfl (lv_at hl 1 rfl) ?_
          refine lv_iload hx hb dL_law_159 (lv_at hl 5 rfl) ?_
          refine lv_iconst (v := 2) hx hb dL_law_161 (by decide) ?_
          refine lv_iadd hx hb dL_law_162 ?_
          obtain ⟨c9, h⟩ := og h
          refine c_sld hX hw hS c9 dL_law_163 ?_
          obtain ⟨v11, m12, e10, h⟩ := oc2 h
          refine m_callI (n := 2) (As := [.int (xs (v0 + 1).toNatClampNeg), .int (xs (v0 + 2).toNatClampNeg)]) (rest := []) hX hn hw (c_X7_open g l hn w7 (xs (v0 + 1).toNatClampNeg) (xs (v0 + 2).toNatClampNeg) mm v11 m12 e10) gL_law_X7_open rfl (by decide +kernel) rfl hl.1 rfl (by simp [rv_cat, ct_i, ct_l]) ⟨by decide, by decide⟩ dL_law_164 (fun H lc cn sn hw => ?_)
          refine lv_istore (lv' := [(6, .int v11), (5, .int v6), (0, .ref b), (1, rv o), (2, .ref (gmd g 32)), (3, rv q), (4, .int v0)]) hx hb dL_law_167 hl (by decide) rfl (fun ls hl => ?_)
          refine lv_aload_n hx hb dL_law_169 rfl (lv_at hl 4 rfl) ?_
          obtain ⟨v14, e13, h⟩ := ob h
          refine m_callI (n := 0) (As := []) (rest := []) hX hn hw (c_X7_thrown g l hn w7  m12 v14 e13) gL_law_X7_thrown rfl (by decide +kernel) rfl hl.1 rfl (by simp [rv_cat, ct_i, ct_l]) ⟨by decide, by decide⟩ dL_law_170 (fun H lc cn sn hw => ?_)
          refine lv_iload hx hb dL_law_173 (lv_at hl 1 rfl) ?_
          refine lv_icmp_eq (tgt := 180) hx hb dL_law_175 (by decide) (fun c15 => ?_) (fun c15 => ?_)
          · replace h := ot c15 h
            refine lv_iload hx hb dL_law_180 (lv_at hl 1 rfl) ?_
            refine lv_if_ne (tgt := 197) hx hb dL_law_182 (by decide) (fun c16 => ?_) (fun c16 => ?_)
            · replace h := oe c16 h
              refine lv_goto (tgt := 1411) hx hb dL_law_197 (by decide) ?_
              refine lv_iinc (v := (v0 + 7)) (lv' := [(4, .int (v0 + 7)), (6, .int v11), (5, .int v6), (0, .ref b), (1, rv o), (2, .ref (gmd g 32)), (3, rv q)]) hx hb dL_law_1411 hl (k := 6) rfl (by rfl) (by decide) (by simp [rv_cat, ct_i, ct_l] <;> decide) (fun ls hl => ?_)
              refine lv_goto (tgt := 23) hx hb dL_law_1414 (by decide) ?_
              exact ih _ _ _ _ _ _ _ _ h hw (lv_sub hl [3, 4, 5, 6, 0] rfl)
            · replace h := ot c16 h
              refine t_aload_n hx hb dL_law_185 rfl (lv_at hl 5 rfl) ?_
              refine lv_iconst (v := 0) hx hb dL_law_186 (by decide) ?_
              obtain ⟨c17, h⟩ := og h
              obtain ⟨c18, h⟩ := og h
              refine c_lld hX hw c17 c18 dL_law_187 ?_
              refine lv_iload hx hb dL_law_188 (lv_at hl 0 rfl) ?_
              refine lv_i2l (v := v11.toInt64) hx hb dL_law_190 rfl ?_
              refine W.lcmp hx hb dL_law_191 ?_
              refine lv_if_eq (tgt := 197) hx hb dL_law_192 (by decide) (fun c19 => ?_) (fun c19 => ?_)
              · replace h := ot c19 h
                refine lv_goto (tgt := 1411) hx hb dL_law_197 (by decide) ?_
                refine lv_iinc (v := (v0 + 7)) (lv' := [(4, .int (v0 + 7)), (6, .int v11), (5, .int v6), (0, .ref b), (1, rv o), (2, .ref (gmd g 32)), (3, rv q)]) hx hb dL_law_1411 hl (k := 6) rfl (by rfl) (by decide) (by simp [rv_cat, ct_i, ct_l] <;> decide) (fun ls hl => ?_)
                refine lv_goto (tgt := 23) hx hb dL_law_1414 (by decide) ?_
                exact ih _ _ _ _ _ _ _ _ h hw (lv_sub hl [3, 4, 5, 6, 0] rfl)
              · replace h := oe c19 h
                refine lv_iconst (v := 0) hx hb dL_law_195 (by decide) ?_
                exact hret _ _ _ _ _ _ _ _ dL_law_196 hw (Option.some.inj h)
          · replace h := oe c15 h
            refine lv_iconst (v := 0) hx hb dL_law_178 (by decide) ?_
            exact hret _ _ _ _ _ _ _ _ dL_law_179 hw (Option.some.inj h)
        · show W p l e (rmO g 20 784 s.heap) s mi args below meth cd H lc cn sn Q (F0 mi 200 ls [])
          replace h := oe (by omega) h
          replace h := ot hji h
          refine t_aload_n hx hb dL_law_200 rfl (lv_at hl 1 rfl) ?_
          refine lv_aload_n hx hb dL_law_201 rfl (lv_at hl 0 rfl) ?_
          refine lv_iload hx hb dL_law_202 (lv_at hl 4 rfl) ?_
          refine lv_iconst (v := 1) hx hb dL_law_204 (by decide) ?_
          refine lv_iadd hx hb dL_law_205 ?_
          obtain ⟨c20, h⟩ := og h
          refine c_sld hX hw hS c20 dL_law_206 ?_
          refine t_aload_n hx hb dL_law_207 rfl (lv_at hl 3 rfl) ?_
          obtain ⟨v22, w23, e21, h⟩ := oc2 h
          refine g_callSWi (n := 3) (As := [rv o, .int (xs (v0 + 1).toNatClampNeg), rv q]) (rest := []) hX hw (c_L_close g l hG hC hst mm o (xs (v0 + 1).toNatClampNeg) q w v22 w23 e21) gL_law_L_close rfl (by decide +kernel) rfl hl.1 rfl (by simp [rv_cat, ct_i, ct_l]) ⟨by decide, by decide⟩ dL_law_208 (fun H lc cn sn hw => ?_)
          refine lv_istore (lv' := [(5, .int v22), (0, .ref b), (1, rv o), (2, .ref (gmd g 32)), (3, rv q), (4, .int v0)]) hx hb dL_law_211 hl (by decide) rfl (fun ls hl => ?_)
          refine lv_aload_n hx hb dL_law_213 rfl (lv_at hl 3 rfl) ?_
          refine lv_aload_n hx hb dL_law_214 rfl (lv_at hl 1 rfl) ?_
          refine lv_iload hx hb dL_law_215 (lv_at hl 5 rfl) ?_
          refine lv_iconst (v := 1) hx hb dL_law_217 (by decide) ?_
          refine lv_iadd hx hb dL_law_218 ?_
          obtain ⟨c24, h⟩ := og h
          refine c_sld hX hw hS c24 dL_law_219 ?_
          obtain ⟨v26, m27, e25, h⟩ := oc2 h
          refine m_callI (n := 1) (As := [.int (xs (v0 + 1).toNatClampNeg)]) (rest := []) hX hn hw (c_X7_close g l hn w23 (xs (v0 + 1).toNatClampNeg) mm v26 m27 e25) gL_law_X7_close rfl (by decide +kernel) rfl hl.1 rfl (by simp [rv_cat, ct_i, ct_l]) ⟨by decide, by decide⟩ dL_law_220 (fun H lc cn sn hw => ?_)
          refine lv_istore (lv' := [(6, .int v26), (5, .int v22), (0, .ref b), (1, rv o), (2, .ref (gmd g 32)), (3, rv q), (4, .int v0)]) hx hb dL_law_223 hl (by decide) rfl (fun ls hl => ?_)
          refine lv_aload_n hx hb dL_law_225 rfl (lv_at hl 4 rfl) ?_
          obtain ⟨v29, e28, h⟩ := ob h
          refine m_callI (n := 0) (As := []) (rest := []) hX hn hw (c_X7_thrown g l hn w23  m27 v29 e28) gL_law_X7_thrown rfl (by decide +kernel) rfl hl.1 rfl (by simp [rv_cat, ct_i, ct_l]) ⟨by decide, by decide⟩ dL_law_226 (fun H lc cn sn hw => ?_)
          refine lv_iload hx hb dL_law_229 (lv_at hl 1 rfl) ?_
          refine lv_icmp_eq (tgt := 236) hx hb dL_law_231 (by decide) (fun c30 => ?_) (fun c30 => ?_)
          · replace h := ot c30 h
            refine lv_iload hx hb dL_law_236 (lv_at hl 1 rfl) ?_
            refine lv_if_ne (tgt := 253) hx hb dL_law_238 (by decide) (fun c31 => ?_) (fun c31 => ?_)
            · replace h := oe c31 h
              refine lv_goto (tgt := 1411) hx hb dL_law_253 (by decide) ?_
              refine lv_iinc (v := (v0 + 7)) (lv' := [(4, .int (v0 + 7)), (6, .int v26), (5, .int v22), (0, .ref b), (1, rv o), (2, .ref (gmd g 32)), (3, rv q)]) hx hb dL_law_1411 hl (k := 6) rfl (by rfl) (by decide) (by simp [rv_cat, ct_i, ct_l] <;> decide) (fun ls hl => ?_)
              refine lv_goto (tgt := 23) hx hb dL_law_1414 (by decide) ?_
              exact ih _ _ _ _ _ _ _ _ h hw (lv_sub hl [3, 4, 5, 6, 0] rfl)
            · replace h := ot c31 h
              refine t_aload_n hx hb dL_law_241 rfl (lv_at hl 5 rfl) ?_
              refine lv_iconst (v := 0) hx hb dL_law_242 (by decide) ?_
              obtain ⟨c32, h⟩ := og h
              obtain ⟨c33, h⟩ := og h
              refine c_lld hX hw c32 c33 dL_law_243 ?_
              refine lv_iload hx hb dL_law_244 (lv_at hl 0 rfl) ?_
              refine lv_i2l (v := v26.toInt64) hx hb dL_law_246 rfl ?_
              refine W.lcmp hx hb dL_law_247 ?_
              refine lv_if_eq (tgt := 253) hx hb dL_law_248 (by decide) (fun c34 => ?_) (fun c34 => ?_)
              · replace h := ot c34 h
                refine lv_goto (tgt := 1411) hx hb dL_law_253 (by decide) ?_
                refine lv_iinc (v := (v0 + 7)) (lv' := [(4, .int (v0 + 7)), (6, .int v26), (5, .int v22), (0, .ref b), (1, rv o), (2, .ref (gmd g 32)), (3, rv q)]) hx hb dL_law_1411 hl (k := 6) rfl (by rfl) (by decide) (by simp [rv_cat, ct_i, ct_l] <;> decide) (fun ls hl => ?_)
                refine lv_goto (tgt := 23) hx hb dL_law_1414 (by decide) ?_
                exact ih _ _ _ _ _ _ _ _ h hw (lv_sub hl [3, 4, 5, 6, 0] rfl)
              · replace h := oe c34 h
                refine lv_iconst (v := 0) hx hb dL_law_251 (by decide) ?_
                exact hret _ _ _ _ _ _ _ _ dL_law_252 hw (Option.some.inj h)
          · replace h := oe c30 h
            refine lv_iconst (v := 0) hx hb dL_law_234 (by decide) ?_
            exact hret _ _ _ _ _ _ _ _ dL_law_235 hw (Option.some.inj h)
        · show W p l e (rmO g 20 784 s.heap) s mi args below meth cd H lc cn sn Q (F0 mi 256 ls [])
          replace h := oe (by omega) h
          replace h := oe (by omega) h
          replace h := ot hji h
          refine t_aload_n hx hb dL_law_256 rfl (lv_at hl 1 rfl) ?_
          refine lv_aload_n hx hb dL_law_257 rfl (lv_at hl 0 rfl) ?_
          refine lv_iload hx hb dL_law_258 (lv_at hl 4 rfl) ?_
          refine lv_iconst (v := 1) hx hb dL_law_260 (by decide) ?_
          refine lv_iadd hx hb dL_law_261 ?_
          obtain ⟨c35, h⟩ := og h
          refine c_sld hX hw hS c35 dL_law_262 ?_
          refine t_aload_n hx hb dL_law_263 rfl (lv_at hl 3 rfl) ?_
          obtain ⟨v37, w38, e36, h⟩ := oc2 h
          refine g_callSWi (n := 3) (As := [rv o, .int (xs (v0 + 1).toNatClampNeg), rv q]) (rest := []) hX hw (c_L_state g l hG hC hst mm o (xs (v0 + 1).toNatClampNeg) q w v37 w38 e36) gL_law_L_state rfl (by decide +kernel) rfl hl.1 rfl (by simp [rv_cat, ct_i, ct_l]) ⟨by decide, by decide⟩ dL_law_264 (fun H lc cn sn hw => ?_)
          refine lv_istore (lv' := [(5, .int v37), (0, .ref b), (1, rv o), (2, .ref (gmd g 32)), (3, rv q), (4, .int v0)]) hx hb dL_law_267 hl (by decide) rfl (fun ls hl => ?_)
          refine lv_aload_n hx hb dL_law_269 rfl (lv_at hl 3 rfl) ?_
          refine lv_aload_n hx hb dL_law_270 rfl (lv_at hl 1 rfl) ?_
          refine lv_iload hx hb dL_law_271 (lv_at hl 5 rfl) ?_
          refine lv_iconst (v := 1) hx hb dL_law_273 (by decide) ?_
          refine lv_iadd hx hb dL_law_274 ?_
          obtain ⟨c39, h⟩ := og h
          refine c_sld hX hw hS c39 dL_law_275 ?_
          obtain ⟨v41, m42, e40, h⟩ := oc2 h
          refine m_callI (n := 1) (As := [.int (xs (v0 + 1).toNatClampNeg)]) (rest := []) hX hn hw (c_X7_state g l hn w38 (xs (v0 + 1).toNatClampNeg) mm v41 m42 e40) gL_law_X7_state rfl (by decide +kernel) rfl hl.1 rfl (by simp [rv_cat, ct_i, ct_l]) ⟨by decide, by decide⟩ dL_law_276 (fun H lc cn sn hw => ?_)
          refine lv_istore (lv' := [(6, .int v41), (5, .int v37), (0, .ref b), (1, rv o), (2, .ref (gmd g 32)), (3, rv q), (4, .int v0)]) hx hb dL_law_279 hl (by decide) rfl (fun ls hl => ?_)
          refine lv_aload_n hx hb dL_law_281 rfl (lv_at hl 4 rfl) ?_
          obtain ⟨v44, e43, h⟩ := ob h
          refine m_callI (n := 0) (As := []) (rest := []) hX hn hw (c_X7_thrown g l hn w38  m42 v44 e43) gL_law_X7_thrown rfl (by decide +kernel) rfl hl.1 rfl (by simp [rv_cat, ct_i, ct_l]) ⟨by decide, by decide⟩ dL_law_282 (fun H lc cn sn hw => ?_)
          refine lv_iload hx hb dL_law_285 (lv_at hl 1 rfl) ?_
          refine lv_icmp_eq (tgt := 292) hx hb dL_law_287 (by decide) (fun c45 => ?_) (fun c45 => ?_)
          · replace h := ot c45 h
            refine lv_iload hx hb dL_law_292 (lv_at hl 1 rfl) ?_
            refine lv_if_ne (tgt := 309) hx hb dL_law_294 (by decide) (fun c46 => ?_) (fun c46 => ?_)
            · replace h := oe c46 h
              refine lv_goto (tgt := 1411) hx hb dL_law_309 (by decide) ?_
              refine lv_iinc (v := (v0 + 7)) (lv' := [(4, .int (v0 + 7)), (6, .int v41), (5, .int v37), (0, .ref b), (1, rv o), (2, .ref (gmd g 32)), (3, rv q)]) hx hb dL_law_1411 hl (k := 6) rfl (by rfl) (by decide) (by simp [rv_cat, ct_i, ct_l] <;> decide) (fun ls hl => ?_)
              refine lv_goto (tgt := 23) hx hb dL_law_1414 (by decide) ?_
              exact ih _ _ _ _ _ _ _ _ h hw (lv_sub hl [3, 4, 5, 6, 0] rfl)
            · replace h := ot c46 h
              refine t_aload_n hx hb dL_law_297 rfl (lv_at hl 5 rfl) ?_
              refine lv_iconst (v := 0) hx hb dL_law_298 (by decide) ?_
              obtain ⟨c47, h⟩ := og h
              obtain ⟨c48, h⟩ := og h
              refine c_lld hX hw c47 c48 dL_law_299 ?_
              refine lv_iload hx hb dL_law_300 (lv_at hl 0 rfl) ?_
              refine lv_i2l (v := v41.toInt64) hx hb dL_law_302 rfl ?_
              refine W.lcmp hx hb dL_law_303 ?_
              refine lv_if_eq (tgt := 309) hx hb dL_law_304 (by decide) (fun c49 => ?_) (fun c49 => ?_)
              · replace h := ot c49 h
                refine lv_goto (tgt := 1411) hx hb dL_law_309 (by decide) ?_
                refine lv_iinc (v := (v0 + 7)) (lv' := [(4, .int (v0 + 7)), (6, .int v41), (5, .int v37), (0, .ref b), (1, rv o), (2, .ref (gmd g 32)), (3, rv q)]) hx hb dL_law_1411 hl (k := 6) rfl (by rfl) (by decide) (by simp [rv_cat, ct_i, ct_l] <;> decide) (fun ls hl => ?_)
                refine lv_goto (tgt := 23) hx hb dL_law_1414 (by decide) ?_
                exact ih _ _ _ _ _ _ _ _ h hw (lv_sub hl [3, 4, 5, 6, 0] rfl)
              · replace h := oe c49 h
                refine lv_iconst (v := 0) hx hb dL_law_307 (by decide) ?_
                exact hret _ _ _ _ _ _ _ _ dL_law_308 hw (Option.some.inj h)
          · replace h := oe c45 h
            refine lv_iconst (v := 0) hx hb dL_law_290 (by decide) ?_
            exact hret _ _ _ _ _ _ _ _ dL_law_291 hw (Option.some.inj h)
        · show W p l e (rmO g 20 784 s.heap) s mi args below meth cd H lc cn sn Q (F0 mi 312 ls [])
          replace h := oe (by omega) h
          replace h := oe (by omega) h
          replace h := oe (by omega) h
          replace h := ot hji h
          refine t_aload_n hx hb dL_law_312 rfl (lv_at hl 1 rfl) ?_
          obtain ⟨c52, h⟩ := og h
          obtain ⟨v51, e50, h⟩ := ob h
          refine g_callVi (n := 0) (As := []) (rest := []) hX hw (c_X6_version g l hG hst mm o w v51 e50) gL_law_X6_version rfl (by decide +kernel) rfl (x_nz hw c52) (c_recv hX hw (ce_6 c52) rfl) hl.1 rfl (by simp [rv_cat, ct_i, ct_l]) ⟨by decide, by decide⟩ dL_law_313 (fun H lc cn sn hw => ?_)
          refine lv_aload_n hx hb dL_law_316 rfl (lv_at hl 2 rfl) ?_
          obtain ⟨v54, m55, e53, h⟩ := oc2 h
          refine m_callI (n := 0) (As := []) (rest := [.int v51]) hX hn hw (c_X7_version g l hn w  mm v54 m55 e53) gL_law_X7_version rfl (by decide +kernel) rfl hl.1 rfl (by simp [rv_cat, ct_i, ct_l]) ⟨by decide, by decide⟩ dL_law_317 (fun H lc cn sn hw => ?_)
          refine lv_icmp_eq (tgt := 1411) hx hb dL_law_320 (by decide) (fun c56 => ?_) (fun c56 => ?_)
          · replace h := ot c56 h
            refine lv_iinc (v := (v0 + 7)) (lv' := [(4, .int (v0 + 7)), (0, .ref b), (1, rv o), (2, .ref (gmd g 32)), (3, rv q)]) hx hb dL_law_1411 hl (k := 4) rfl (by rfl) (by decide) (by simp [rv_cat, ct_i, ct_l] <;> decide) (fun ls hl => ?_)
            refine lv_goto (tgt := 23) hx hb dL_law_1414 (by decide) ?_
            exact ih _ _ _ _ _ _ _ _ h hw (lv_sub hl [1, 2, 3, 4, 0] rfl)
          · replace h := oe c56 h
            refine lv_iconst (v := 0) hx hb dL_law_323 (by decide) ?_
            exact hret _ _ _ _ _ _ _ _ dL_law_324 hw (Option.some.inj h)
        · show W p l e (rmO g 20 784 s.heap) s mi args below meth cd H lc cn sn Q (F0 mi 325 ls [])
          replace h := oe (by omega) h
          replace h := oe (by omega) h
          replace h := oe (by omega) h
          replace h := oe (by omega) h
          replace h := ot hji h
          refine t_aload_n hx hb dL_law_325 rfl (lv_at hl 1 rfl) ?_
          obtain ⟨c59, h⟩ := og h
          obtain ⟨v58, e57, h⟩ := ob h
          refine g_callVi (n := 0) (As := []) (rest := []) hX hw (c_X6_upgrade g l hG hst mm o w v58 e57) gL_law_X6_upgrade rfl (by decide +kernel) rfl (x_nz hw c59) (c_recv hX hw (ce_6 c59) rfl) hl.1 rfl (by simp [rv_cat, ct_i, ct_l]) ⟨by decide, by decide⟩ dL_law_326 (fun H lc cn sn hw => ?_)
          refine lv_aload_n hx hb dL_law_329 rfl (lv_at hl 2 rfl) ?_
          obtain ⟨v61, m62, e60, h⟩ := oc2 h
          refine m_callI (n := 0) (As := []) (rest := [.int v58]) hX hn hw (c_X7_upgrade g l hn w  mm v61 m62 e60) gL_law_X7_upgrade rfl (by decide +kernel) rfl hl.1 rfl (by simp [rv_cat, ct_i, ct_l]) ⟨by decide, by decide⟩ dL_law_330 (fun H lc cn sn hw => ?_)
          refine lv_icmp_eq (tgt := 1411) hx hb dL_law_333 (by decide) (fun c63 => ?_) (fun c63 => ?_)
          · replace h := ot c63 h
            refine lv_iinc (v := (v0 + 7)) (lv' := [(4, .int (v0 + 7)), (0, .ref b), (1, rv o), (2, .ref (gmd g 32)), (3, rv q)]) hx hb dL_law_1411 hl (k := 4) rfl (by rfl) (by decide) (by simp [rv_cat, ct_i, ct_l] <;> decide) (fun ls hl => ?_)
            refine lv_goto (tgt := 23) hx hb dL_law_1414 (by decide) ?_
            exact ih _ _ _ _ _ _ _ _ h hw (lv_sub hl [1, 2, 3, 4, 0] rfl)
          · replace h := oe c63 h
            refine lv_iconst (v := 0) hx hb dL_law_336 (by decide) ?_
            exact hret _ _ _ _ _ _ _ _ dL_law_337 hw (Option.some.inj h)
        · show W p l e (rmO g 20 784 s.heap) s mi args below meth cd H lc cn sn Q (F0 mi 338 ls [])
          replace h := oe (by omega) h
          replace h := oe (by omega) h
          replace h := oe (by omega) h
          replace h := oe (by omega) h
          replace h := oe (by omega) h
          replace h := ot hji h
          refine t_aload_n hx hb dL_law_338 rfl (lv_at hl 1 rfl) ?_
          refine lv_aload_n hx hb dL_law_339 rfl (lv_at hl 0 rfl) ?_
          refine lv_iload hx hb dL_law_340 (lv_at hl 4 rfl) ?_
          refine lv_iconst (v := 1) hx hb dL_law_342 (by decide) ?_
          refine lv_iadd hx hb dL_law_343 ?_
          obtain ⟨c64, h⟩ := og h
          refine c_sld hX hw hS c64 dL_law_344 ?_
          refine lv_aload_n hx hb dL_law_345 rfl (lv_at hl 0 rfl) ?_
          refine lv_iload hx hb dL_law_346 (lv_at hl 4 rfl) ?_
          refine lv_iconst (v := 2) hx hb dL_law_348 (by decide) ?_
          refine lv_iadd hx hb dL_law_349 ?_
          obtain ⟨c65, h⟩ := og h
          refine c_sld hX hw hS c65 dL_law_350 ?_
          obtain ⟨v67, w68, e66, h⟩ := oc2 h
          refine g_callSWi (n := 3) (As := [rv o, .int (xs (v0 + 1).toNatClampNeg), .int (xs (v0 + 2).toNatClampNeg)]) (rest := []) hX hw (c_L_makeStore g l hG hC hst mm o (xs (v0 + 1).toNatClampNeg) (xs (v0 + 2).toNatClampNeg) w v67 w68 e66) gL_law_L_makeStore rfl (by decide +kernel) rfl hl.1 rfl (by simp [rv_cat, ct_i, ct_l]) ⟨by decide, by decide⟩ dL_law_351 (fun H lc cn sn hw => ?_)
          refine lv_istore (lv' := [(5, .int v67), (0, .ref b), (1, rv o), (2, .ref (gmd g 32)), (3, rv q), (4, .int v0)]) hx hb dL_law_354 hl (by decide) rfl (fun ls hl => ?_)
          refine lv_aload_n hx hb dL_law_356 rfl (lv_at hl 3 rfl) ?_
          refine lv_aload_n hx hb dL_law_357 rfl (lv_at hl 1 rfl) ?_
          refine lv_iload hx hb dL_law_358 (lv_at hl 5 rfl) ?_
          refine lv_iconst (v := 1) hx hb dL_law_360 (by decide) ?_
          refine lv_iadd hx hb dL_law_361 ?_
          obtain ⟨c69, h⟩ := og h
          refine c_sld hX hw hS c69 dL_law_362 ?_
          refine lv_aload_n hx hb dL_law_363 rfl (lv_at hl 1 rfl) ?_
          refine lv_iload hx hb dL_law_364 (lv_at hl 5 rfl) ?_
          refine lv_iconst (v := 2) hx hb dL_law_366 (by decide) ?_
          refine lv_iadd hx hb dL_law_367 ?_
          obtain ⟨c70, h⟩ := og h
          refine c_sld hX hw hS c70 dL_law_368 ?_
          obtain ⟨m72, e71, h⟩ := ob h
          refine m_callV (n := 2) (As := [.int (xs (v0 + 1).toNatClampNeg), .int (xs (v0 + 2).toNatClampNeg)]) (rest := []) hX hn hw (c_X7_makeStore g l hn w68 (xs (v0 + 1).toNatClampNeg) (xs (v0 + 2).toNatClampNeg) mm m72 e71) gL_law_X7_makeStore rfl (by decide +kernel) rfl hl.1 rfl (by simp [rv_cat, ct_i, ct_l]) ⟨by decide, by decide⟩ dL_law_369 (fun H lc cn sn hw => ?_)
          refine lv_aload_n hx hb dL_law_372 rfl (lv_at hl 3 rfl) ?_
          obtain ⟨v74, e73, h⟩ := ob h
          refine m_callI (n := 0) (As := []) (rest := []) hX hn hw (c_X7_thrown g l hn w68  m72 v74 e73) gL_law_X7_thrown rfl (by decide +kernel) rfl hl.1 rfl (by simp [rv_cat, ct_i, ct_l]) ⟨by decide, by decide⟩ dL_law_373 (fun H lc cn sn hw => ?_)
          refine lv_iload hx hb dL_law_376 (lv_at hl 0 rfl) ?_
          refine lv_icmp_eq (tgt := 383) hx hb dL_law_378 (by decide) (fun c75 => ?_) (fun c75 => ?_)
          · replace h := ot c75 h
            refine lv_goto (tgt := 1411) hx hb dL_law_383 (by decide) ?_
            refine lv_iinc (v := (v0 + 7)) (lv' := [(4, .int (v0 + 7)), (5, .int v67), (0, .ref b), (1, rv o), (2, .ref (gmd g 32)), (3, rv q)]) hx hb dL_law_1411 hl (k := 5) rfl (by rfl) (by decide) (by simp [rv_cat, ct_i, ct_l] <;> decide) (fun ls hl => ?_)
            refine lv_goto (tgt := 23) hx hb dL_law_1414 (by decide) ?_
            exact ih _ _ _ _ _ _ _ _ h hw (lv_sub hl [2, 3, 4, 5, 0] rfl)
          · replace h := oe c75 h
            refine lv_iconst (v := 0) hx hb dL_law_381 (by decide) ?_
            exact hret _ _ _ _ _ _ _ _ dL_law_382 hw (Option.some.inj h)
        · show W p l e (rmO g 20 784 s.heap) s mi args below meth cd H lc cn sn Q (F0 mi 386 ls [])
          replace h := oe (by omega) h
          replace h := oe (by omega) h
          replace h := oe (by omega) h
          replace h := oe (by omega) h
          replace h := oe (by omega) h
          replace h := oe (by omega) h
          replace h := ot hji h
          refine t_aload_n hx hb dL_law_386 rfl (lv_at hl 1 rfl) ?_
          refine lv_aload_n hx hb dL_law_387 rfl (lv_at hl 0 rfl) ?_
          refine lv_iload hx hb dL_law_388 (lv_at hl 4 rfl) ?_
          refine lv_iconst (v := 1) hx hb dL_law_390 (by decide) ?_
          refine lv_iadd hx hb dL_law_391 ?_
          obtain ⟨c76, h⟩ := og h
          refine c_sld hX hw hS c76 dL_law_392 ?_
          refine lv_aload_n hx hb dL_law_393 rfl (lv_at hl 0 rfl) ?_
          refine lv_iload hx hb dL_law_394 (lv_at hl 4 rfl) ?_
          refine lv_iconst (v := 2) hx hb dL_law_396 (by decide) ?_
          refine lv_iadd hx hb dL_law_397 ?_
          obtain ⟨c77, h⟩ := og h
          refine c_sld hX hw hS c77 dL_law_398 ?_
          refine t_aload_n hx hb dL_law_399 rfl (lv_at hl 3 rfl) ?_
          obtain ⟨v79, w80, e78, h⟩ := oc2 h
          refine g_callSWi (n := 4) (As := [rv o, .int (xs (v0 + 1).toNatClampNeg), .int (xs (v0 + 2).toNatClampNeg), rv q]) (rest := []) hX hw (c_L_deleteStore g l hG hC hst mm o (xs (v0 + 1).toNatClampNeg) (xs (v0 + 2).toNatClampNeg) q w v79 w80 e78) gL_law_L_deleteStore rfl (by decide +kernel) rfl hl.1 rfl (by simp [rv_cat, ct_i, ct_l]) ⟨by decide, by decide⟩ dL_law_400 (fun H lc cn sn hw => ?_)
          refine lv_istore (lv' := [(5, .int v79), (0, .ref b), (1, rv o), (2, .ref (gmd g 32)), (3, rv q), (4, .int v0)]) hx hb dL_law_403 hl (by decide) rfl (fun ls hl => ?_)
          refine lv_aload_n hx hb dL_law_405 rfl (lv_at hl 3 rfl) ?_
          refine lv_aload_n hx hb dL_law_406 rfl (lv_at hl 1 rfl) ?_
          refine lv_iload hx hb dL_law_407 (lv_at hl 5 rfl) ?_
          refine lv_iconst (v := 1) hx hb dL_law_409 (by decide) ?_
          refine lv_iadd hx hb dL_law_410 ?_
          obtain ⟨c81, h⟩ := og h
          refine c_sld hX hw hS c81 dL_law_411 ?_
          refine lv_aload_n hx hb dL_law_412 rfl (lv_at hl 1 rfl) ?_
          refine lv_iload hx hb dL_law_413 (lv_at hl 5 rfl) ?_
          refine lv_iconst (v := 2) hx hb dL_law_415 (by decide) ?_
          refine lv_iadd hx hb dL_law_416 ?_
          obtain ⟨c82, h⟩ := og h
          refine c_sld hX hw hS c82 dL_law_417 ?_
          obtain ⟨v84, m85, e83, h⟩ := oc2 h
          refine m_callI (n := 2) (As := [.int (xs (v0 + 1).toNatClampNeg), .int (xs (v0 + 2).toNatClampNeg)]) (rest := []) hX hn hw (c_X7_deleteStore g l hn w80 (xs (v0 + 1).toNatClampNeg) (xs (v0 + 2).toNatClampNeg) mm v84 m85 e83) gL_law_X7_deleteStore rfl (by decide +kernel) rfl hl.1 rfl (by simp [rv_cat, ct_i, ct_l]) ⟨by decide, by decide⟩ dL_law_418 (fun H lc cn sn hw => ?_)
          refine lv_istore (lv' := [(6, .int v84), (5, .int v79), (0, .ref b), (1, rv o), (2, .ref (gmd g 32)), (3, rv q), (4, .int v0)]) hx hb dL_law_421 hl (by decide) rfl (fun ls hl => ?_)
          refine lv_aload_n hx hb dL_law_423 rfl (lv_at hl 4 rfl) ?_
          obtain ⟨v87, e86, h⟩ := ob h
          refine m_callI (n := 0) (As := []) (rest := []) hX hn hw (c_X7_thrown g l hn w80  m85 v87 e86) gL_law_X7_thrown rfl (by decide +kernel) rfl hl.1 rfl (by simp [rv_cat, ct_i, ct_l]) ⟨by decide, by decide⟩ dL_law_424 (fun H lc cn sn hw => ?_)
          refine lv_iload hx hb dL_law_427 (lv_at hl 1 rfl) ?_
          refine lv_icmp_eq (tgt := 434) hx hb dL_law_429 (by decide) (fun c88 => ?_) (fun c88 => ?_)
          · replace h := ot c88 h
            refine lv_iload hx hb dL_law_434 (lv_at hl 1 rfl) ?_
            refine lv_if_ne (tgt := 451) hx hb dL_law_436 (by decide) (fun c89 => ?_) (fun c89 => ?_)
            · replace h := oe c89 h
              refine lv_goto (tgt := 1411) hx hb dL_law_451 (by decide) ?_
              refine lv_iinc (v := (v0 + 7)) (lv' := [(4, .int (v0 + 7)), (6, .int v84), (5, .int v79), (0, .ref b), (1, rv o), (2, .ref (gmd g 32)), (3, rv q)]) hx hb dL_law_1411 hl (k := 6) rfl (by rfl) (by decide) (by simp [rv_cat, ct_i, ct_l] <;> decide) (fun ls hl => ?_)
              refine lv_goto (tgt := 23) hx hb dL_law_1414 (by decide) ?_
              exact ih _ _ _ _ _ _ _ _ h hw (lv_sub hl [3, 4, 5, 6, 0] rfl)
            · replace h := ot c89 h
              refine t_aload_n hx hb dL_law_439 rfl (lv_at hl 5 rfl) ?_
              refine lv_iconst (v := 0) hx hb dL_law_440 (by decide) ?_
              obtain ⟨c90, h⟩ := og h
              obtain ⟨c91, h⟩ := og h
              refine c_lld hX hw c90 c91 dL_law_441 ?_
              refine lv_iload hx hb dL_law_442 (lv_at hl 0 rfl) ?_
              refine lv_i2l (v := v84.toInt64) hx hb dL_law_444 rfl ?_
              refine W.lcmp hx hb dL_law_445 ?_
              refine lv_if_eq (tgt := 451) hx hb dL_law_446 (by decide) (fun c92 => ?_) (fun c92 => ?_)
              · replace h := ot c92 h
                refine lv_goto (tgt := 1411) hx hb dL_law_451 (by decide) ?_
                refine lv_iinc (v := (v0 + 7)) (lv' := [(4, .int (v0 + 7)), (6, .int v84), (5, .int v79), (0, .ref b), (1, rv o), (2, .ref (gmd g 32)), (3, rv q)]) hx hb dL_law_1411 hl (k := 6) rfl (by rfl) (by decide) (by simp [rv_cat, ct_i, ct_l] <;> decide) (fun ls hl => ?_)
                refine lv_goto (tgt := 23) hx hb dL_law_1414 (by decide) ?_
                exact ih _ _ _ _ _ _ _ _ h hw (lv_sub hl [3, 4, 5, 6, 0] rfl)
              · replace h := oe c92 h
                refine lv_iconst (v := 0) hx hb dL_law_449 (by decide) ?_
                exact hret _ _ _ _ _ _ _ _ dL_law_450 hw (Option.some.inj h)
          · replace h := oe c88 h
            refine lv_iconst (v := 0) hx hb dL_law_432 (by decide) ?_
            exact hret _ _ _ _ _ _ _ _ dL_law_433 hw (Option.some.inj h)
        · show W p l e (rmO g 20 784 s.heap) s mi args below meth cd H lc cn sn Q (F0 mi 454 ls [])
          replace h := oe (by omega) h
          replace h := oe (by omega) h
          replace h := oe (by omega) h
          replace h := oe (by omega) h
          replace h := oe (by omega) h
          replace h := oe (by omega) h
          replace h := oe (by omega) h
          replace h := ot hji h
          refine t_aload_n hx hb dL_law_454 rfl (lv_at hl 1 rfl) ?_
          refine lv_aload_n hx hb dL_law_455 rfl (lv_at hl 0 rfl) ?_
          refine lv_iload hx hb dL_law_456 (lv_at hl 4 rfl) ?_
          refine lv_iconst (v := 1) hx hb dL_law_458 (by decide) ?_
          refine lv_iadd hx hb dL_law_459 ?_
          obtain ⟨c93, h⟩ := og h
          refine c_sld hX hw hS c93 dL_law_460 ?_
          refine lv_aload_n hx hb dL_law_461 rfl (lv_at hl 0 rfl) ?_
          refine lv_iload hx hb dL_law_462 (lv_at hl 4 rfl) ?_
          refine lv_iconst (v := 2) hx hb dL_law_464 (by decide) ?_
          refine lv_iadd hx hb dL_law_465 ?_
          obtain ⟨c94, h⟩ := og h
          refine c_sld hX hw hS c94 dL_law_466 ?_
          refine lv_aload_n hx hb dL_law_467 rfl (lv_at hl 0 rfl) ?_
          refine lv_iload hx hb dL_law_468 (lv_at hl 4 rfl) ?_
          refine lv_iconst (v := 3) hx hb dL_law_470 (by decide) ?_
          refine lv_iadd hx hb dL_law_471 ?_
          obtain ⟨c95, h⟩ := og h
          refine c_sld hX hw hS c95 dL_law_472 ?_
          refine lv_aload_n hx hb dL_law_473 rfl (lv_at hl 0 rfl) ?_
          refine lv_iload hx hb dL_law_474 (lv_at hl 4 rfl) ?_
          refine lv_iconst (v := 4) hx hb dL_law_476 (by decide) ?_
          refine lv_iadd hx hb dL_law_477 ?_
          obtain ⟨c96, h⟩ := og h
          refine c_sld hX hw hS c96 dL_law_478 ?_
          refine lv_if_eq (tgt := 486) hx hb dL_law_479 (by decide) (fun c97 => ?_) (fun c97 => ?_)
          · replace h := ot c97 h
            refine lv_iconst (v := 0) hx hb dL_law_486 (by decide) ?_
            obtain ⟨v99, w100, e98, h⟩ := oc2 h
            refine g_callSWi (n := 5) (As := [rv o, .int (xs (v0 + 1).toNatClampNeg), .int (xs (v0 + 2).toNatClampNeg), .int (xs (v0 + 3).toNatClampNeg), .int 0]) (rest := []) hX hw (c_L_makeIndex g l hG hC hst mm o (xs (v0 + 1).toNatClampNeg) (xs (v0 + 2).toNatClampNeg) (xs (v0 + 3).toNatClampNeg) 0 w v99 w100 e98) gL_law_L_makeIndex rfl (by decide +kernel) rfl hl.1 rfl (by simp [rv_cat, ct_i, ct_l]) ⟨by decide, by decide⟩ dL_law_487 (fun H lc cn sn hw => ?_)
            refine lv_istore (lv' := [(5, .int v99), (0, .ref b), (1, rv o), (2, .ref (gmd g 32)), (3, rv q), (4, .int v0)]) hx hb dL_law_490 hl (by decide) rfl (fun ls hl => ?_)
            refine lv_aload_n hx hb dL_law_492 rfl (lv_at hl 3 rfl) ?_
            refine lv_aload_n hx hb dL_law_493 rfl (lv_at hl 1 rfl) ?_
            refine lv_iload hx hb dL_law_494 (lv_at hl 5 rfl) ?_
            refine lv_iconst (v := 1) hx hb dL_law_496 (by decide) ?_
            refine lv_iadd hx hb dL_law_497 ?_
            obtain ⟨c101, h⟩ := og h
            refine c_sld hX hw hS c101 dL_law_498 ?_
            refine lv_aload_n hx hb dL_law_499 rfl (lv_at hl 1 rfl) ?_
            refine lv_iload hx hb dL_law_500 (lv_at hl 5 rfl) ?_
            refine lv_iconst (v := 2) hx hb dL_law_502 (by decide) ?_
            refine lv_iadd hx hb dL_law_503 ?_
            obtain ⟨c102, h⟩ := og h
            refine c_sld hX hw hS c102 dL_law_504 ?_
            refine lv_aload_n hx hb dL_law_505 rfl (lv_at hl 1 rfl) ?_
            refine lv_iload hx hb dL_law_506 (lv_at hl 5 rfl) ?_
            refine lv_iconst (v := 3) hx hb dL_law_508 (by decide) ?_
            refine lv_iadd hx hb dL_law_509 ?_
            obtain ⟨c103, h⟩ := og h
            refine c_sld hX hw hS c103 dL_law_510 ?_
            refine lv_aload_n hx hb dL_law_511 rfl (lv_at hl 1 rfl) ?_
            refine lv_iload hx hb dL_law_512 (lv_at hl 5 rfl) ?_
            refine lv_iconst (v := 4) hx hb dL_law_514 (by decide) ?_
            refine lv_iadd hx hb dL_law_515 ?_
            obtain ⟨c104, h⟩ := og h
            refine c_sld hX hw hS c104 dL_law_516 ?_
            refine lv_if_eq (tgt := 524) hx hb dL_law_517 (by decide) (fun c105 => ?_) (fun c105 => ?_)
            · replace h := ot c105 h
              refine lv_iconst (v := 0) hx hb dL_law_524 (by decide) ?_
              obtain ⟨m107, e106, h⟩ := ob h
              refine m_callV (n := 4) (As := [.int (xs (v0 + 1).toNatClampNeg), .int (xs (v0 + 2).toNatClampNeg), .int (xs (v0 + 3).toNatClampNeg), .int 0]) (rest := []) hX hn hw (c_X7_makeIndex g l hn w100 (xs (v0 + 1).toNatClampNeg) (xs (v0 + 2).toNatClampNeg) (xs (v0 + 3).toNatClampNeg) 0 mm m107 e106) gL_law_X7_makeIndex rfl (by decide +kernel) rfl hl.1 rfl (by simp [rv_cat, ct_i, ct_l]) ⟨by decide, by decide⟩ dL_law_525 (fun H lc cn sn hw => ?_)
              refine lv_aload_n hx hb dL_law_528 rfl (lv_at hl 3 rfl) ?_
              obtain ⟨v109, e108, h⟩ := ob h
              refine m_callI (n := 0) (As := []) (rest := []) hX hn hw (c_X7_thrown g l hn w100  m107 v109 e108) gL_law_X7_thrown rfl (by decide +kernel) rfl hl.1 rfl (by simp [rv_cat, ct_i, ct_l]) ⟨by decide, by decide⟩ dL_law_529 (fun H lc cn sn hw => ?_)
              refine lv_iload hx hb dL_law_532 (lv_at hl 0 rfl) ?_
              refine lv_icmp_eq (tgt := 539) hx hb dL_law_534 (by decide) (fun c110 => ?_) (fun c110 => ?_)
              · replace h := ot c110 h
                refine lv_goto (tgt := 1411) hx hb dL_law_539 (by decide) ?_
                refine lv_iinc (v := (v0 + 7)) (lv' := [(4, .int (v0 + 7)), (5, .int v99), (0, .ref b), (1, rv o), (2, .ref (gmd g 32)), (3, rv q)]) hx hb dL_law_1411 hl (k := 5) rfl (by rfl) (by decide) (by simp [rv_cat, ct_i, ct_l] <;> decide) (fun ls hl => ?_)
                refine lv_goto (tgt := 23) hx hb dL_law_1414 (by decide) ?_
                exact ih _ _ _ _ _ _ _ _ h hw (lv_sub hl [2, 3, 4, 5, 0] rfl)
              · replace h := oe c110 h
                refine lv_iconst (v := 0) hx hb dL_law_537 (by decide) ?_
                exact hret _ _ _ _ _ _ _ _ dL_law_538 hw (Option.some.inj h)
            · replace h := oe c105 h
              refine lv_iconst (v := 1) hx hb dL_law_520 (by decide) ?_
              refine lv_goto (tgt := 525) hx hb dL_law_521 (by decide) ?_
              obtain ⟨m112, e111, h⟩ := ob h
              refine m_callV (n := 4) (As := [.int (xs (v0 + 1).toNatClampNeg), .int (xs (v0 + 2).toNatClampNeg), .int (xs (v0 + 3).toNatClampNeg), .int 1]) (rest := []) hX hn hw (c_X7_makeIndex g l hn w100 (xs (v0 + 1).toNatClampNeg) (xs (v0 + 2).toNatClampNeg) (xs (v0 + 3).toNatClampNeg) 1 mm m112 e111) gL_law_X7_makeIndex rfl (by decide +kernel) rfl hl.1 rfl (by simp [rv_cat, ct_i, ct_l]) ⟨by decide, by decide⟩ dL_law_525 (fun H lc cn sn hw => ?_)
              refine lv_aload_n hx hb dL_law_528 rfl (lv_at hl 3 rfl) ?_
              obtain ⟨v114, e113, h⟩ := ob h
              refine m_callI (n := 0) (As := []) (rest := []) hX hn hw (c_X7_thrown g l hn w100  m112 v114 e113) gL_law_X7_thrown rfl (by decide +kernel) rfl hl.1 rfl (by simp [rv_cat, ct_i, ct_l]) ⟨by decide, by decide⟩ dL_law_529 (fun H lc cn sn hw => ?_)
              refine lv_iload hx hb dL_law_532 (lv_at hl 0 rfl) ?_
              refine lv_icmp_eq (tgt := 539) hx hb dL_law_534 (by decide) (fun c115 => ?_) (fun c115 => ?_)
              · replace h := ot c115 h
                refine lv_goto (tgt := 1411) hx hb dL_law_539 (by decide) ?_
                refine lv_iinc (v := (v0 + 7)) (lv' := [(4, .int (v0 + 7)), (5, .int v99), (0, .ref b), (1, rv o), (2, .ref (gmd g 32)), (3, rv q)]) hx hb dL_law_1411 hl (k := 5) rfl (by rfl) (by decide) (by simp [rv_cat, ct_i, ct_l] <;> decide) (fun ls hl => ?_)
                refine lv_goto (tgt := 23) hx hb dL_law_1414 (by decide) ?_
                exact ih _ _ _ _ _ _ _ _ h hw (lv_sub hl [2, 3, 4, 5, 0] rfl)
              · replace h := oe c115 h
                refine lv_iconst (v := 0) hx hb dL_law_537 (by decide) ?_
                exact hret _ _ _ _ _ _ _ _ dL_law_538 hw (Option.some.inj h)
          · replace h := oe c97 h
            refine lv_iconst (v := 1) hx hb dL_law_482 (by decide) ?_
            refine lv_goto (tgt := 487) hx hb dL_law_483 (by decide) ?_
            obtain ⟨v117, w118, e116, h⟩ := oc2 h
            refine g_callSWi (n := 5) (As := [rv o, .int (xs (v0 + 1).toNatClampNeg), .int (xs (v0 + 2).toNatClampNeg), .int (xs (v0 + 3).toNatClampNeg), .int 1]) (rest := []) hX hw (c_L_makeIndex g l hG hC hst mm o (xs (v0 + 1).toNatClampNeg) (xs (v0 + 2).toNatClampNeg) (xs (v0 + 3).toNatClampNeg) 1 w v117 w118 e116) gL_law_L_makeIndex rfl (by decide +kernel) rfl hl.1 rfl (by simp [rv_cat, ct_i, ct_l]) ⟨by decide, by decide⟩ dL_law_487 (fun H lc cn sn hw => ?_)
            refine lv_istore (lv' := [(5, .int v117), (0, .ref b), (1, rv o), (2, .ref (gmd g 32)), (3, rv q), (4, .int v0)]) hx hb dL_law_490 hl (by decide) rfl (fun ls hl => ?_)
            refine lv_aload_n hx hb dL_law_492 rfl (lv_at hl 3 rfl) ?_
            refine lv_aload_n hx hb dL_law_493 rfl (lv_at hl 1 rfl) ?_
            refine lv_iload hx hb dL_law_494 (lv_at hl 5 rfl) ?_
            refine lv_iconst (v := 1) hx hb dL_law_496 (by decide) ?_
            refine lv_iadd hx hb dL_law_497 ?_
            obtain ⟨c119, h⟩ := og h
            refine c_sld hX hw hS c119 dL_law_498 ?_
            refine lv_aload_n hx hb dL_law_499 rfl (lv_at hl 1 rfl) ?_
            refine lv_iload hx hb dL_law_500 (lv_at hl 5 rfl) ?_
            refine lv_iconst (v := 2) hx hb dL_law_502 (by decide) ?_
            refine lv_iadd hx hb dL_law_503 ?_
            obtain ⟨c120, h⟩ := og h
            refine c_sld hX hw hS c120 dL_law_504 ?_
            refine lv_aload_n hx hb dL_law_505 rfl (lv_at hl 1 rfl) ?_
            refine lv_iload hx hb dL_law_506 (lv_at hl 5 rfl) ?_
            refine lv_iconst (v := 3) hx hb dL_law_508 (by decide) ?_
            refine lv_iadd hx hb dL_law_509 ?_
            obtain ⟨c121, h⟩ := og h
            refine c_sld hX hw hS c121 dL_law_510 ?_
            refine lv_aload_n hx hb dL_law_511 rfl (lv_at hl 1 rfl) ?_
            refine lv_iload hx hb dL_law_512 (lv_at hl 5 rfl) ?_
            refine lv_iconst (v := 4) hx hb dL_law_514 (by decide) ?_
            refine lv_iadd hx hb dL_law_515 ?_
            obtain ⟨c122, h⟩ := og h
            refine c_sld hX hw hS c122 dL_law_516 ?_
            refine lv_if_eq (tgt := 524) hx hb dL_law_517 (by decide) (fun c123 => ?_) (fun c123 => ?_)
            · replace h := ot c123 h
              refine lv_iconst (v := 0) hx hb dL_law_524 (by decide) ?_
              obtain ⟨m125, e124, h⟩ := ob h
              refine m_callV (n := 4) (As := [.int (xs (v0 + 1).toNatClampNeg), .int (xs (v0 + 2).toNatClampNeg), .int (xs (v0 + 3).toNatClampNeg), .int 0]) (rest := []) hX hn hw (c_X7_makeIndex g l hn w118 (xs (v0 + 1).toNatClampNeg) (xs (v0 + 2).toNatClampNeg) (xs (v0 + 3).toNatClampNeg) 0 mm m125 e124) gL_law_X7_makeIndex rfl (by decide +kernel) rfl hl.1 rfl (by simp [rv_cat, ct_i, ct_l]) ⟨by decide, by decide⟩ dL_law_525 (fun H lc cn sn hw => ?_)
              refine lv_aload_n hx hb dL_law_528 rfl (lv_at hl 3 rfl) ?_
              obtain ⟨v127, e126, h⟩ := ob h
              refine m_callI (n := 0) (As := []) (rest := []) hX hn hw (c_X7_thrown g l hn w118  m125 v127 e126) gL_law_X7_thrown rfl (by decide +kernel) rfl hl.1 rfl (by simp [rv_cat, ct_i, ct_l]) ⟨by decide, by decide⟩ dL_law_529 (fun H lc cn sn hw => ?_)
              refine lv_iload hx hb dL_law_532 (lv_at hl 0 rfl) ?_
              refine lv_icmp_eq (tgt := 539) hx hb dL_law_534 (by decide) (fun c128 => ?_) (fun c128 => ?_)
              · replace h := ot c128 h
                refine lv_goto (tgt := 1411) hx hb dL_law_539 (by decide) ?_
                refine lv_iinc (v := (v0 + 7)) (lv' := [(4, .int (v0 + 7)), (5, .int v117), (0, .ref b), (1, rv o), (2, .ref (gmd g 32)), (3, rv q)]) hx hb dL_law_1411 hl (k := 5) rfl (by rfl) (by decide) (by simp [rv_cat, ct_i, ct_l] <;> decide) (fun ls hl => ?_)
                refine lv_goto (tgt := 23) hx hb dL_law_1414 (by decide) ?_
                exact ih _ _ _ _ _ _ _ _ h hw (lv_sub hl [2, 3, 4, 5, 0] rfl)
              · replace h := oe c128 h
                refine lv_iconst (v := 0) hx hb dL_law_537 (by decide) ?_
                exact hret _ _ _ _ _ _ _ _ dL_law_538 hw (Option.some.inj h)
            · replace h := oe c123 h
              refine lv_iconst (v := 1) hx hb dL_law_520 (by decide) ?_
              refine lv_goto (tgt := 525) hx hb dL_law_521 (by decide) ?_
              obtain ⟨m130, e129, h⟩ := ob h
              refine m_callV (n := 4) (As := [.int (xs (v0 + 1).toNatClampNeg), .int (xs (v0 + 2).toNatClampNeg), .int (xs (v0 + 3).toNatClampNeg), .int 1]) (rest := []) hX hn hw (c_X7_makeIndex g l hn w118 (xs (v0 + 1).toNatClampNeg) (xs (v0 + 2).toNatClampNeg) (xs (v0 + 3).toNatClampNeg) 1 mm m130 e129) gL_law_X7_makeIndex rfl (by decide +kernel) rfl hl.1 rfl (by simp [rv_cat, ct_i, ct_l]) ⟨by decide, by decide⟩ dL_law_525 (fun H lc cn sn hw => ?_)
              refine lv_aload_n hx hb dL_law_528 rfl (lv_at hl 3 rfl) ?_
              obtain ⟨v132, e131, h⟩ := ob h
              refine m_callI (n := 0) (As := []) (rest := []) hX hn hw (c_X7_thrown g l hn w118  m130 v132 e131) gL_law_X7_thrown rfl (by decide +kernel) rfl hl.1 rfl (by simp [rv_cat, ct_i, ct_l]) ⟨by decide, by decide⟩ dL_law_529 (fun H lc cn sn hw => ?_)
              refine lv_iload hx hb dL_law_532 (lv_at hl 0 rfl) ?_
              refine lv_icmp_eq (tgt := 539) hx hb dL_law_534 (by decide) (fun c133 => ?_) (fun c133 => ?_)
              · replace h := ot c133 h
                refine lv_goto (tgt := 1411) hx hb dL_law_539 (by decide) ?_
                refine lv_iinc (v := (v0 + 7)) (lv' := [(4, .int (v0 + 7)), (5, .int v117), (0, .ref b), (1, rv o), (2, .ref (gmd g 32)), (3, rv q)]) hx hb dL_law_1411 hl (k := 5) rfl (by rfl) (by decide) (by simp [rv_cat, ct_i, ct_l] <;> decide) (fun ls hl => ?_)
                refine lv_goto (tgt := 23) hx hb dL_law_1414 (by decide) ?_
                exact ih _ _ _ _ _ _ _ _ h hw (lv_sub hl [2, 3, 4, 5, 0] rfl)
              · replace h := oe c133 h
                refine lv_iconst (v := 0) hx hb dL_law_537 (by decide) ?_
                exact hret _ _ _ _ _ _ _ _ dL_law_538 hw (Option.some.inj h)
        · show W p l e (rmO g 20 784 s.heap) s mi args below meth cd H lc cn sn Q (F0 mi 542 ls [])
          replace h := oe (by omega) h
          replace h := oe (by omega) h
          replace h := oe (by omega) h
          replace h := oe (by omega) h
          replace h := oe (by omega) h
          replace h := oe (by omega) h
          replace h := oe (by omega) h
          replace h := oe (by omega) h
          replace h := ot hji h
          refine t_aload_n hx hb dL_law_542 rfl (lv_at hl 1 rfl) ?_
          refine lv_aload_n hx hb dL_law_543 rfl (lv_at hl 0 rfl) ?_
          refine lv_iload hx hb dL_law_544 (lv_at hl 4 rfl) ?_
          refine lv_iconst (v := 1) hx hb dL_law_546 (by decide) ?_
          refine lv_iadd hx hb dL_law_547 ?_
          obtain ⟨c134, h⟩ := og h
          refine c_sld hX hw hS c134 dL_law_548 ?_
          refine lv_aload_n hx hb dL_law_549 rfl (lv_at hl 0 rfl) ?_
          refine lv_iload hx hb dL_law_550 (lv_at hl 4 rfl) ?_
          refine lv_iconst (v := 2) hx hb dL_law_552 (by decide) ?_
          refine lv_iadd hx hb dL_law_553 ?_
          obtain ⟨c135, h⟩ := og h
          refine c_sld hX hw hS c135 dL_law_554 ?_
          refine lv_aload_n hx hb dL_law_555 rfl (lv_at hl 0 rfl) ?_
          refine lv_iload hx hb dL_law_556 (lv_at hl 4 rfl) ?_
          refine lv_iconst (v := 3) hx hb dL_law_558 (by decide) ?_
          refine lv_iadd hx hb dL_law_559 ?_
          obtain ⟨c136, h⟩ := og h
          refine c_sld hX hw hS c136 dL_law_560 ?_
          refine lv_if_eq (tgt := 568) hx hb dL_law_561 (by decide) (fun c137 => ?_) (fun c137 => ?_)
          · replace h := ot c137 h
            refine lv_iconst (v := 0) hx hb dL_law_568 (by decide) ?_
            refine t_aload_n hx hb dL_law_569 rfl (lv_at hl 3 rfl) ?_
            obtain ⟨v139, w140, e138, h⟩ := oc2 h
            refine g_callSWi (n := 5) (As := [rv o, .int (xs (v0 + 1).toNatClampNeg), .int (xs (v0 + 2).toNatClampNeg), .int 0, rv q]) (rest := []) hX hw (c_L_begin g l hG hC hst mm o (xs (v0 + 1).toNatClampNeg) (xs (v0 + 2).toNatClampNeg) 0 q w v139 w140 e138) gL_law_L_begin rfl (by decide +kernel) rfl hl.1 rfl (by simp [rv_cat, ct_i, ct_l]) ⟨by decide, by decide⟩ dL_law_570 (fun H lc cn sn hw => ?_)
            refine lv_istore (lv' := [(5, .int v139), (0, .ref b), (1, rv o), (2, .ref (gmd g 32)), (3, rv q), (4, .int v0)]) hx hb dL_law_573 hl (by decide) rfl (fun ls hl => ?_)
            refine lv_aload_n hx hb dL_law_575 rfl (lv_at hl 3 rfl) ?_
            refine lv_aload_n hx hb dL_law_576 rfl (lv_at hl 1 rfl) ?_
            refine lv_iload hx hb dL_law_577 (lv_at hl 5 rfl) ?_
            refine lv_iconst (v := 1) hx hb dL_law_579 (by decide) ?_
            refine lv_iadd hx hb dL_law_580 ?_
            obtain ⟨c141, h⟩ := og h
            refine c_sld hX hw hS c141 dL_law_581 ?_
            refine lv_aload_n hx hb dL_law_582 rfl (lv_at hl 1 rfl) ?_
            refine lv_iload hx hb dL_law_583 (lv_at hl 5 rfl) ?_
            refine lv_iconst (v := 2) hx hb dL_law_585 (by decide) ?_
            refine lv_iadd hx hb dL_law_586 ?_
            obtain ⟨c142, h⟩ := og h
            refine c_sld hX hw hS c142 dL_law_587 ?_
            refine lv_aload_n hx hb dL_law_588 rfl (lv_at hl 1 rfl) ?_
            refine lv_iload hx hb dL_law_589 (lv_at hl 5 rfl) ?_
            refine lv_iconst (v := 3) hx hb dL_law_591 (by decide) ?_
            refine lv_iadd hx hb dL_law_592 ?_
            obtain ⟨c143, h⟩ := og h
            refine c_sld hX hw hS c143 dL_law_593 ?_
            refine lv_if_eq (tgt := 601) hx hb dL_law_594 (by decide) (fun c144 => ?_) (fun c144 => ?_)
            · replace h := ot c144 h
              refine lv_iconst (v := 0) hx hb dL_law_601 (by decide) ?_
              obtain ⟨v146, m147, e145, h⟩ := oc2 h
              refine m_callI (n := 3) (As := [.int (xs (v0 + 1).toNatClampNeg), .int (xs (v0 + 2).toNatClampNeg), .int 0]) (rest := []) hX hn hw (c_X7_begin g l hn w140 (xs (v0 + 1).toNatClampNeg) (xs (v0 + 2).toNatClampNeg) 0 mm v146 m147 e145) gL_law_X7_begin rfl (by decide +kernel) rfl hl.1 rfl (by simp [rv_cat, ct_i, ct_l]) ⟨by decide, by decide⟩ dL_law_602 (fun H lc cn sn hw => ?_)
              refine lv_istore (lv' := [(6, .int v146), (5, .int v139), (0, .ref b), (1, rv o), (2, .ref (gmd g 32)), (3, rv q), (4, .int v0)]) hx hb dL_law_605 hl (by decide) rfl (fun ls hl => ?_)
              refine lv_aload_n hx hb dL_law_607 rfl (lv_at hl 4 rfl) ?_
              obtain ⟨v149, e148, h⟩ := ob h
              refine m_callI (n := 0) (As := []) (rest := []) hX hn hw (c_X7_thrown g l hn w140  m147 v149 e148) gL_law_X7_thrown rfl (by decide +kernel) rfl hl.1 rfl (by simp [rv_cat, ct_i, ct_l]) ⟨by decide, by decide⟩ dL_law_608 (fun H lc cn sn hw => ?_)
              refine lv_iload hx hb dL_law_611 (lv_at hl 1 rfl) ?_
              refine lv_icmp_eq (tgt := 618) hx hb dL_law_613 (by decide) (fun c150 => ?_) (fun c150 => ?_)
              · replace h := ot c150 h
                refine lv_iload hx hb dL_law_618 (lv_at hl 1 rfl) ?_
                refine lv_if_ne (tgt := 635) hx hb dL_law_620 (by decide) (fun c151 => ?_) (fun c151 => ?_)
                · replace h := oe c151 h
                  refine lv_goto (tgt := 1411) hx hb dL_law_635 (by decide) ?_
                  refine lv_iinc (v := (v0 + 7)) (lv' := [(4, .int (v0 + 7)), (6, .int v146), (5, .int v139), (0, .ref b), (1, rv o), (2, .ref (gmd g 32)), (3, rv q)]) hx hb dL_law_1411 hl (k := 6) rfl (by rfl) (by decide) (by simp [rv_cat, ct_i, ct_l] <;> decide) (fun ls hl => ?_)
                  refine lv_goto (tgt := 23) hx hb dL_law_1414 (by decide) ?_
                  exact ih _ _ _ _ _ _ _ _ h hw (lv_sub hl [3, 4, 5, 6, 0] rfl)
                · replace h := ot c151 h
                  refine t_aload_n hx hb dL_law_623 rfl (lv_at hl 5 rfl) ?_
                  refine lv_iconst (v := 0) hx hb dL_law_624 (by decide) ?_
                  obtain ⟨c152, h⟩ := og h
                  obtain ⟨c153, h⟩ := og h
                  refine c_lld hX hw c152 c153 dL_law_625 ?_
                  refine lv_iload hx hb dL_law_626 (lv_at hl 0 rfl) ?_
                  refine lv_i2l (v := v146.toInt64) hx hb dL_law_628 rfl ?_
                  refine W.lcmp hx hb dL_law_629 ?_
                  refine lv_if_eq (tgt := 635) hx hb dL_law_630 (by decide) (fun c154 => ?_) (fun c154 => ?_)
                  · replace h := ot c154 h
                    refine lv_goto (tgt := 1411) hx hb dL_law_635 (by decide) ?_
                    refine lv_iinc (v := (v0 + 7)) (lv' := [(4, .int (v0 + 7)), (6, .int v146), (5, .int v139), (0, .ref b), (1, rv o), (2, .ref (gmd g 32)), (3, rv q)]) hx hb dL_law_1411 hl (k := 6) rfl (by rfl) (by decide) (by simp [rv_cat, ct_i, ct_l] <;> decide) (fun ls hl => ?_)
                    refine lv_goto (tgt := 23) hx hb dL_law_1414 (by decide) ?_
                    exact ih _ _ _ _ _ _ _ _ h hw (lv_sub hl [3, 4, 5, 6, 0] rfl)
                  · replace h := oe c154 h
                    refine lv_iconst (v := 0) hx hb dL_law_633 (by decide) ?_
                    exact hret _ _ _ _ _ _ _ _ dL_law_634 hw (Option.some.inj h)
              · replace h := oe c150 h
                refine lv_iconst (v := 0) hx hb dL_law_616 (by decide) ?_
                exact hret _ _ _ _ _ _ _ _ dL_law_617 hw (Option.some.inj h)
            · replace h := oe c144 h
              refine lv_iconst (v := 1) hx hb dL_law_597 (by decide) ?_
              refine lv_goto (tgt := 602) hx hb dL_law_598 (by decide) ?_
              obtain ⟨v156, m157, e155, h⟩ := oc2 h
              refine m_callI (n := 3) (As := [.int (xs (v0 + 1).toNatClampNeg), .int (xs (v0 + 2).toNatClampNeg), .int 1]) (rest := []) hX hn hw (c_X7_begin g l hn w140 (xs (v0 + 1).toNatClampNeg) (xs (v0 + 2).toNatClampNeg) 1 mm v156 m157 e155) gL_law_X7_begin rfl (by decide +kernel) rfl hl.1 rfl (by simp [rv_cat, ct_i, ct_l]) ⟨by decide, by decide⟩ dL_law_602 (fun H lc cn sn hw => ?_)
              refine lv_istore (lv' := [(6, .int v156), (5, .int v139), (0, .ref b), (1, rv o), (2, .ref (gmd g 32)), (3, rv q), (4, .int v0)]) hx hb dL_law_605 hl (by decide) rfl (fun ls hl => ?_)
              refine lv_aload_n hx hb dL_law_607 rfl (lv_at hl 4 rfl) ?_
              obtain ⟨v159, e158, h⟩ := ob h
              refine m_callI (n := 0) (As := []) (rest := []) hX hn hw (c_X7_thrown g l hn w140  m157 v159 e158) gL_law_X7_thrown rfl (by decide +kernel) rfl hl.1 rfl (by simp [rv_cat, ct_i, ct_l]) ⟨by decide, by decide⟩ dL_law_608 (fun H lc cn sn hw => ?_)
              refine lv_iload hx hb dL_law_611 (lv_at hl 1 rfl) ?_
              refine lv_icmp_eq (tgt := 618) hx hb dL_law_613 (by decide) (fun c160 => ?_) (fun c160 => ?_)
              · replace h := ot c160 h
                refine lv_iload hx hb dL_law_618 (lv_at hl 1 rfl) ?_
                refine lv_if_ne (tgt := 635) hx hb dL_law_620 (by decide) (fun c161 => ?_) (fun c161 => ?_)
                · replace h := oe c161 h
                  refine lv_goto (tgt := 1411) hx hb dL_law_635 (by decide) ?_
                  refine lv_iinc (v := (v0 + 7)) (lv' := [(4, .int (v0 + 7)), (6, .int v156), (5, .int v139), (0, .ref b), (1, rv o), (2, .ref (gmd g 32)), (3, rv q)]) hx hb dL_law_1411 hl (k := 6) rfl (by rfl) (by decide) (by simp [rv_cat, ct_i, ct_l] <;> decide) (fun ls hl => ?_)
                  refine lv_goto (tgt := 23) hx hb dL_law_1414 (by decide) ?_
                  exact ih _ _ _ _ _ _ _ _ h hw (lv_sub hl [3, 4, 5, 6, 0] rfl)
                · replace h := ot c161 h
                  refine t_aload_n hx hb dL_law_623 rfl (lv_at hl 5 rfl) ?_
                  refine lv_iconst (v := 0) hx hb dL_law_624 (by decide) ?_
                  obtain ⟨c162, h⟩ := og h
                  obtain ⟨c163, h⟩ := og h
                  refine c_lld hX hw c162 c163 dL_law_625 ?_
                  refine lv_iload hx hb dL_law_626 (lv_at hl 0 rfl) ?_
                  refine lv_i2l (v := v156.toInt64) hx hb dL_law_628 rfl ?_
                  refine W.lcmp hx hb dL_law_629 ?_
                  refine lv_if_eq (tgt := 635) hx hb dL_law_630 (by decide) (fun c164 => ?_) (fun c164 => ?_)
                  · replace h := ot c164 h
                    refine lv_goto (tgt := 1411) hx hb dL_law_635 (by decide) ?_
                    refine lv_iinc (v := (v0 + 7)) (lv' := [(4, .int (v0 + 7)), (6, .int v156), (5, .int v139), (0, .ref b), (1, rv o), (2, .ref (gmd g 32)), (3, rv q)]) hx hb dL_law_1411 hl (k := 6) rfl (by rfl) (by decide) (by simp [rv_cat, ct_i, ct_l] <;> decide) (fun ls hl => ?_)
                    refine lv_goto (tgt := 23) hx hb dL_law_1414 (by decide) ?_
                    exact ih _ _ _ _ _ _ _ _ h hw (lv_sub hl [3, 4, 5, 6, 0] rfl)
                  · replace h := oe c164 h
                    refine lv_iconst (v := 0) hx hb dL_law_633 (by decide) ?_
                    exact hret _ _ _ _ _ _ _ _ dL_law_634 hw (Option.some.inj h)
              · replace h := oe c160 h
                refine lv_iconst (v := 0) hx hb dL_law_616 (by decide) ?_
                exact hret _ _ _ _ _ _ _ _ dL_law_617 hw (Option.some.inj h)
          · replace h := oe c137 h
            refine lv_iconst (v := 1) hx hb dL_law_564 (by decide) ?_
            refine lv_goto (tgt := 569) hx hb dL_law_565 (by decide) ?_
            refine t_aload_n hx hb dL_law_569 rfl (lv_at hl 3 rfl) ?_
            obtain ⟨v166, w167, e165, h⟩ := oc2 h
            refine g_callSWi (n := 5) (As := [rv o, .int (xs (v0 + 1).toNatClampNeg), .int (xs (v0 + 2).toNatClampNeg), .int 1, rv q]) (rest := []) hX hw (c_L_begin g l hG hC hst mm o (xs (v0 + 1).toNatClampNeg) (xs (v0 + 2).toNatClampNeg) 1 q w v166 w167 e165) gL_law_L_begin rfl (by decide +kernel) rfl hl.1 rfl (by simp [rv_cat, ct_i, ct_l]) ⟨by decide, by decide⟩ dL_law_570 (fun H lc cn sn hw => ?_)
            refine lv_istore (lv' := [(5, .int v166), (0, .ref b), (1, rv o), (2, .ref (gmd g 32)), (3, rv q), (4, .int v0)]) hx hb dL_law_573 hl (by decide) rfl (fun ls hl => ?_)
            refine lv_aload_n hx hb dL_law_575 rfl (lv_at hl 3 rfl) ?_
            refine lv_aload_n hx hb dL_law_576 rfl (lv_at hl 1 rfl) ?_
            refine lv_iload hx hb dL_law_577 (lv_at hl 5 rfl) ?_
            refine lv_iconst (v := 1) hx hb dL_law_579 (by decide) ?_
            refine lv_iadd hx hb dL_law_580 ?_
            obtain ⟨c168, h⟩ := og h
            refine c_sld hX hw hS c168 dL_law_581 ?_
            refine lv_aload_n hx hb dL_law_582 rfl (lv_at hl 1 rfl) ?_
            refine lv_iload hx hb dL_law_583 (lv_at hl 5 rfl) ?_
            refine lv_iconst (v := 2) hx hb dL_law_585 (by decide) ?_
            refine lv_iadd hx hb dL_law_586 ?_
            obtain ⟨c169, h⟩ := og h
            refine c_sld hX hw hS c169 dL_law_587 ?_
            refine lv_aload_n hx hb dL_law_588 rfl (lv_at hl 1 rfl) ?_
            refine lv_iload hx hb dL_law_589 (lv_at hl 5 rfl) ?_
            refine lv_iconst (v := 3) hx hb dL_law_591 (by decide) ?_
            refine lv_iadd hx hb dL_law_592 ?_
            obtain ⟨c170, h⟩ := og h
            refine c_sld hX hw hS c170 dL_law_593 ?_
            refine lv_if_eq (tgt := 601) hx hb dL_law_594 (by decide) (fun c171 => ?_) (fun c171 => ?_)
            · replace h := ot c171 h
              refine lv_iconst (v := 0) hx hb dL_law_601 (by decide) ?_
              obtain ⟨v173, m174, e172, h⟩ := oc2 h
              refine m_callI (n := 3) (As := [.int (xs (v0 + 1).toNatClampNeg), .int (xs (v0 + 2).toNatClampNeg), .int 0]) (rest := []) hX hn hw (c_X7_begin g l hn w167 (xs (v0 + 1).toNatClampNeg) (xs (v0 + 2).toNatClampNeg) 0 mm v173 m174 e172) gL_law_X7_begin rfl (by decide +kernel) rfl hl.1 rfl (by simp [rv_cat, ct_i, ct_l]) ⟨by decide, by decide⟩ dL_law_602 (fun H lc cn sn hw => ?_)
              refine lv_istore (lv' := [(6, .int v173), (5, .int v166), (0, .ref b), (1, rv o), (2, .ref (gmd g 32)), (3, rv q), (4, .int v0)]) hx hb dL_law_605 hl (by decide) rfl (fun ls hl => ?_)
              refine lv_aload_n hx hb dL_law_607 rfl (lv_at hl 4 rfl) ?_
              obtain ⟨v176, e175, h⟩ := ob h
              refine m_callI (n := 0) (As := []) (rest := []) hX hn hw (c_X7_thrown g l hn w167  m174 v176 e175) gL_law_X7_thrown rfl (by decide +kernel) rfl hl.1 rfl (by simp [rv_cat, ct_i, ct_l]) ⟨by decide, by decide⟩ dL_law_608 (fun H lc cn sn hw => ?_)
              refine lv_iload hx hb dL_law_611 (lv_at hl 1 rfl) ?_
              refine lv_icmp_eq (tgt := 618) hx hb dL_law_613 (by decide) (fun c177 => ?_) (fun c177 => ?_)
              · replace h := ot c177 h
                refine lv_iload hx hb dL_law_618 (lv_at hl 1 rfl) ?_
                refine lv_if_ne (tgt := 635) hx hb dL_law_620 (by decide) (fun c178 => ?_) (fun c178 => ?_)
                · replace h := oe c178 h
                  refine lv_goto (tgt := 1411) hx hb dL_law_635 (by decide) ?_
                  refine lv_iinc (v := (v0 + 7)) (lv' := [(4, .int (v0 + 7)), (6, .int v173), (5, .int v166), (0, .ref b), (1, rv o), (2, .ref (gmd g 32)), (3, rv q)]) hx hb dL_law_1411 hl (k := 6) rfl (by rfl) (by decide) (by simp [rv_cat, ct_i, ct_l] <;> decide) (fun ls hl => ?_)
                  refine lv_goto (tgt := 23) hx hb dL_law_1414 (by decide) ?_
                  exact ih _ _ _ _ _ _ _ _ h hw (lv_sub hl [3, 4, 5, 6, 0] rfl)
                · replace h := ot c178 h
                  refine t_aload_n hx hb dL_law_623 rfl (lv_at hl 5 rfl) ?_
                  refine lv_iconst (v := 0) hx hb dL_law_624 (by decide) ?_
                  obtain ⟨c179, h⟩ := og h
                  obtain ⟨c180, h⟩ := og h
                  refine c_lld hX hw c179 c180 dL_law_625 ?_
                  refine lv_iload hx hb dL_law_626 (lv_at hl 0 rfl) ?_
                  refine lv_i2l (v := v173.toInt64) hx hb dL_law_628 rfl ?_
                  refine W.lcmp hx hb dL_law_629 ?_
                  refine lv_if_eq (tgt := 635) hx hb dL_law_630 (by decide) (fun c181 => ?_) (fun c181 => ?_)
                  · replace h := ot c181 h
                    refine lv_goto (tgt := 1411) hx hb dL_law_635 (by decide) ?_
                    refine lv_iinc (v := (v0 + 7)) (lv' := [(4, .int (v0 + 7)), (6, .int v173), (5, .int v166), (0, .ref b), (1, rv o), (2, .ref (gmd g 32)), (3, rv q)]) hx hb dL_law_1411 hl (k := 6) rfl (by rfl) (by decide) (by simp [rv_cat, ct_i, ct_l] <;> decide) (fun ls hl => ?_)
                    refine lv_goto (tgt := 23) hx hb dL_law_1414 (by decide) ?_
                    exact ih _ _ _ _ _ _ _ _ h hw (lv_sub hl [3, 4, 5, 6, 0] rfl)
                  · replace h := oe c181 h
                    refine lv_iconst (v := 0) hx hb dL_law_633 (by decide) ?_
                    exact hret _ _ _ _ _ _ _ _ dL_law_634 hw (Option.some.inj h)
              · replace h := oe c177 h
                refine lv_iconst (v := 0) hx hb dL_law_616 (by decide) ?_
                exact hret _ _ _ _ _ _ _ _ dL_law_617 hw (Option.some.inj h)
            · replace h := oe c171 h
              refine lv_iconst (v := 1) hx hb dL_law_597 (by decide) ?_
              refine lv_goto (tgt := 602) hx hb dL_law_598 (by decide) ?_
              obtain ⟨v183, m184, e182, h⟩ := oc2 h
              refine m_callI (n := 3) (As := [.int (xs (v0 + 1).toNatClampNeg), .int (xs (v0 + 2).toNatClampNeg), .int 1]) (rest := []) hX hn hw (c_X7_begin g l hn w167 (xs (v0 + 1).toNatClampNeg) (xs (v0 + 2).toNatClampNeg) 1 mm v183 m184 e182) gL_law_X7_begin rfl (by decide +kernel) rfl hl.1 rfl (by simp [rv_cat, ct_i, ct_l]) ⟨by decide, by decide⟩ dL_law_602 (fun H lc cn sn hw => ?_)
              refine lv_istore (lv' := [(6, .int v183), (5, .int v166), (0, .ref b), (1, rv o), (2, .ref (gmd g 32)), (3, rv q), (4, .int v0)]) hx hb dL_law_605 hl (by decide) rfl (fun ls hl => ?_)
              refine lv_aload_n hx hb dL_law_607 rfl (lv_at hl 4 rfl) ?_
              obtain ⟨v186, e185, h⟩ := ob h
              refine m_callI (n := 0) (As := []) (rest := []) hX hn hw (c_X7_thrown g l hn w167  m184 v186 e185) gL_law_X7_thrown rfl (by decide +kernel) rfl hl.1 rfl (by simp [rv_cat, ct_i, ct_l]) ⟨by decide, by decide⟩ dL_law_608 (fun H lc cn sn hw => ?_)
              refine lv_iload hx hb dL_law_611 (lv_at hl 1 rfl) ?_
              refine lv_icmp_eq (tgt := 618) hx hb dL_law_613 (by decide) (fun c187 => ?_) (fun c187 => ?_)
              · replace h := ot c187 h
                refine lv_iload hx hb dL_law_618 (lv_at hl 1 rfl) ?_
                refine lv_if_ne (tgt := 635) hx hb dL_law_620 (by decide) (fun c188 => ?_) (fun c188 => ?_)
                · replace h := oe c188 h
                  refine lv_goto (tgt := 1411) hx hb dL_law_635 (by decide) ?_
                  refine lv_iinc (v := (v0 + 7)) (lv' := [(4, .int (v0 + 7)), (6, .int v183), (5, .int v166), (0, .ref b), (1, rv o), (2, .ref (gmd g 32)), (3, rv q)]) hx hb dL_law_1411 hl (k := 6) rfl (by rfl) (by decide) (by simp [rv_cat, ct_i, ct_l] <;> decide) (fun ls hl => ?_)
                  refine lv_goto (tgt := 23) hx hb dL_law_1414 (by decide) ?_
                  exact ih _ _ _ _ _ _ _ _ h hw (lv_sub hl [3, 4, 5, 6, 0] rfl)
                · replace h := ot c188 h
                  refine t_aload_n hx hb dL_law_623 rfl (lv_at hl 5 rfl) ?_
                  refine lv_iconst (v := 0) hx hb dL_law_624 (by decide) ?_
                  obtain ⟨c189, h⟩ := og h
                  obtain ⟨c190, h⟩ := og h
                  refine c_lld hX hw c189 c190 dL_law_625 ?_
                  refine lv_iload hx hb dL_law_626 (lv_at hl 0 rfl) ?_
                  refine lv_i2l (v := v183.toInt64) hx hb dL_law_628 rfl ?_
                  refine W.lcmp hx hb dL_law_629 ?_
                  refine lv_if_eq (tgt := 635) hx hb dL_law_630 (by decide) (fun c191 => ?_) (fun c191 => ?_)
                  · replace h := ot c191 h
                    refine lv_goto (tgt := 1411) hx hb dL_law_635 (by decide) ?_
                    refine lv_iinc (v := (v0 + 7)) (lv' := [(4, .int (v0 + 7)), (6, .int v183), (5, .int v166), (0, .ref b), (1, rv o), (2, .ref (gmd g 32)), (3, rv q)]) hx hb dL_law_1411 hl (k := 6) rfl (by rfl) (by decide) (by simp [rv_cat, ct_i, ct_l] <;> decide) (fun ls hl => ?_)
                    refine lv_goto (tgt := 23) hx hb dL_law_1414 (by decide) ?_
                    exact ih _ _ _ _ _ _ _ _ h hw (lv_sub hl [3, 4, 5, 6, 0] rfl)
                  · replace h := oe c191 h
                    refine lv_iconst (v := 0) hx hb dL_law_633 (by decide) ?_
                    exact hret _ _ _ _ _ _ _ _ dL_law_634 hw (Option.some.inj h)
              · replace h := oe c187 h
                refine lv_iconst (v := 0) hx hb dL_law_616 (by decide) ?_
                exact hret _ _ _ _ _ _ _ _ dL_law_617 hw (Option.some.inj h)
        · show W p l e (rmO g 20 784 s.heap) s mi args below meth cd H lc cn sn Q (F0 mi 638 ls [])
          replace h := oe (by omega) h
          replace h := oe (by omega) h
          replace h := oe (by omega) h
          replace h := oe (by omega) h
          replace h := oe (by omega) h
          replace h := oe (by omega) h
          replace h := oe (by omega) h
          replace h := oe (by omega) h
          replace h := oe (by omega) h
          replace h := ot hji h
          refine t_aload_n hx hb dL_law_638 rfl (lv_at hl 1 rfl) ?_
          refine lv_aload_n hx hb dL_law_639 rfl (lv_at hl 0 rfl) ?_
          refine lv_iload hx hb dL_law_640 (lv_at hl 4 rfl) ?_
          refine lv_iconst (v := 1) hx hb dL_law_642 (by decide) ?_
          refine lv_iadd hx hb dL_law_643 ?_
          obtain ⟨c192, h⟩ := og h
          refine c_sld hX hw hS c192 dL_law_644 ?_
          refine t_aload_n hx hb dL_law_645 rfl (lv_at hl 3 rfl) ?_
          obtain ⟨v194, w195, e193, h⟩ := oc2 h
          refine g_callSWi (n := 3) (As := [rv o, .int (xs (v0 + 1).toNatClampNeg), rv q]) (rest := []) hX hw (c_L_standing g l hG hC hst mm o (xs (v0 + 1).toNatClampNeg) q w v194 w195 e193) gL_law_L_standing rfl (by decide +kernel) rfl hl.1 rfl (by simp [rv_cat, ct_i, ct_l]) ⟨by decide, by decide⟩ dL_law_646 (fun H lc cn sn hw => ?_)
          refine lv_istore (lv' := [(5, .int v194), (0, .ref b), (1, rv o), (2, .ref (gmd g 32)), (3, rv q), (4, .int v0)]) hx hb dL_law_649 hl (by decide) rfl (fun ls hl => ?_)
          refine lv_aload_n hx hb dL_law_651 rfl (lv_at hl 3 rfl) ?_
          refine lv_aload_n hx hb dL_law_652 rfl (lv_at hl 1 rfl) ?_
          refine lv_iload hx hb dL_law_653 (lv_at hl 5 rfl) ?_
          refine lv_iconst (v := 1) hx hb dL_law_655 (by decide) ?_
          refine lv_iadd hx hb dL_law_656 ?_
          obtain ⟨c196, h⟩ := og h
          refine c_sld hX hw hS c196 dL_law_657 ?_
          obtain ⟨v198, m199, e197, h⟩ := oc2 h
          refine m_callI (n := 1) (As := [.int (xs (v0 + 1).toNatClampNeg)]) (rest := []) hX hn hw (c_X7_standing g l hn w195 (xs (v0 + 1).toNatClampNeg) mm v198 m199 e197) gL_law_X7_standing rfl (by decide +kernel) rfl hl.1 rfl (by simp [rv_cat, ct_i, ct_l]) ⟨by decide, by decide⟩ dL_law_658 (fun H lc cn sn hw => ?_)
          refine lv_istore (lv' := [(6, .int v198), (5, .int v194), (0, .ref b), (1, rv o), (2, .ref (gmd g 32)), (3, rv q), (4, .int v0)]) hx hb dL_law_661 hl (by decide) rfl (fun ls hl => ?_)
          refine lv_aload_n hx hb dL_law_663 rfl (lv_at hl 4 rfl) ?_
          obtain ⟨v201, e200, h⟩ := ob h
          refine m_callI (n := 0) (As := []) (rest := []) hX hn hw (c_X7_thrown g l hn w195  m199 v201 e200) gL_law_X7_thrown rfl (by decide +kernel) rfl hl.1 rfl (by simp [rv_cat, ct_i, ct_l]) ⟨by decide, by decide⟩ dL_law_664 (fun H lc cn sn hw => ?_)
          refine lv_iload hx hb dL_law_667 (lv_at hl 1 rfl) ?_
          refine lv_icmp_eq (tgt := 674) hx hb dL_law_669 (by decide) (fun c202 => ?_) (fun c202 => ?_)
          · replace h := ot c202 h
            refine lv_iload hx hb dL_law_674 (lv_at hl 1 rfl) ?_
            refine lv_if_ne (tgt := 691) hx hb dL_law_676 (by decide) (fun c203 => ?_) (fun c203 => ?_)
            · replace h := oe c203 h
              refine lv_goto (tgt := 1411) hx hb dL_law_691 (by decide) ?_
              refine lv_iinc (v := (v0 + 7)) (lv' := [(4, .int (v0 + 7)), (6, .int v198), (5, .int v194), (0, .ref b), (1, rv o), (2, .ref (gmd g 32)), (3, rv q)]) hx hb dL_law_1411 hl (k := 6) rfl (by rfl) (by decide) (by simp [rv_cat, ct_i, ct_l] <;> decide) (fun ls hl => ?_)
              refine lv_goto (tgt := 23) hx hb dL_law_1414 (by decide) ?_
              exact ih _ _ _ _ _ _ _ _ h hw (lv_sub hl [3, 4, 5, 6, 0] rfl)
            · replace h := ot c203 h
              refine t_aload_n hx hb dL_law_679 rfl (lv_at hl 5 rfl) ?_
              refine lv_iconst (v := 0) hx hb dL_law_680 (by decide) ?_
              obtain ⟨c204, h⟩ := og h
              obtain ⟨c205, h⟩ := og h
              refine c_lld hX hw c204 c205 dL_law_681 ?_
              refine lv_iload hx hb dL_law_682 (lv_at hl 0 rfl) ?_
              refine lv_i2l (v := v198.toInt64) hx hb dL_law_684 rfl ?_
              refine W.lcmp hx hb dL_law_685 ?_
              refine lv_if_eq (tgt := 691) hx hb dL_law_686 (by decide) (fun c206 => ?_) (fun c206 => ?_)
              · replace h := ot c206 h
                refine lv_goto (tgt := 1411) hx hb dL_law_691 (by decide) ?_
                refine lv_iinc (v := (v0 + 7)) (lv' := [(4, .int (v0 + 7)), (6, .int v198), (5, .int v194), (0, .ref b), (1, rv o), (2, .ref (gmd g 32)), (3, rv q)]) hx hb dL_law_1411 hl (k := 6) rfl (by rfl) (by decide) (by simp [rv_cat, ct_i, ct_l] <;> decide) (fun ls hl => ?_)
                refine lv_goto (tgt := 23) hx hb dL_law_1414 (by decide) ?_
                exact ih _ _ _ _ _ _ _ _ h hw (lv_sub hl [3, 4, 5, 6, 0] rfl)
              · replace h := oe c206 h
                refine lv_iconst (v := 0) hx hb dL_law_689 (by decide) ?_
                exact hret _ _ _ _ _ _ _ _ dL_law_690 hw (Option.some.inj h)
          · replace h := oe c202 h
            refine lv_iconst (v := 0) hx hb dL_law_672 (by decide) ?_
            exact hret _ _ _ _ _ _ _ _ dL_law_673 hw (Option.some.inj h)
        · show W p l e (rmO g 20 784 s.heap) s mi args below meth cd H lc cn sn Q (F0 mi 694 ls [])
          replace h := oe (by omega) h
          replace h := oe (by omega) h
          replace h := oe (by omega) h
          replace h := oe (by omega) h
          replace h := oe (by omega) h
          replace h := oe (by omega) h
          replace h := oe (by omega) h
          replace h := oe (by omega) h
          replace h := oe (by omega) h
          replace h := oe (by omega) h
          replace h := ot hji h
          refine t_aload_n hx hb dL_law_694 rfl (lv_at hl 1 rfl) ?_
          refine lv_aload_n hx hb dL_law_695 rfl (lv_at hl 0 rfl) ?_
          refine lv_iload hx hb dL_law_696 (lv_at hl 4 rfl) ?_
          refine lv_iconst (v := 1) hx hb dL_law_698 (by decide) ?_
          refine lv_iadd hx hb dL_law_699 ?_
          obtain ⟨c207, h⟩ := og h
          refine c_sld hX hw hS c207 dL_law_700 ?_
          refine t_aload_n hx hb dL_law_701 rfl (lv_at hl 3 rfl) ?_
          obtain ⟨v209, w210, e208, h⟩ := oc2 h
          refine g_callSWi (n := 3) (As := [rv o, .int (xs (v0 + 1).toNatClampNeg), rv q]) (rest := []) hX hw (c_L_commit g l hG hC hst mm o (xs (v0 + 1).toNatClampNeg) q w v209 w210 e208) gL_law_L_commit rfl (by decide +kernel) rfl hl.1 rfl (by simp [rv_cat, ct_i, ct_l]) ⟨by decide, by decide⟩ dL_law_702 (fun H lc cn sn hw => ?_)
          refine lv_istore (lv' := [(5, .int v209), (0, .ref b), (1, rv o), (2, .ref (gmd g 32)), (3, rv q), (4, .int v0)]) hx hb dL_law_705 hl (by decide) rfl (fun ls hl => ?_)
          refine lv_aload_n hx hb dL_law_707 rfl (lv_at hl 3 rfl) ?_
          refine lv_aload_n hx hb dL_law_708 rfl (lv_at hl 1 rfl) ?_
          refine lv_iload hx hb dL_law_709 (lv_at hl 5 rfl) ?_
          refine lv_iconst (v := 1) hx hb dL_law_711 (by decide) ?_
          refine lv_iadd hx hb dL_law_712 ?_
          obtain ⟨c211, h⟩ := og h
          refine c_sld hX hw hS c211 dL_law_713 ?_
          obtain ⟨v213, m214, e212, h⟩ := oc2 h
          refine m_callI (n := 1) (As := [.int (xs (v0 + 1).toNatClampNeg)]) (rest := []) hX hn hw (c_X7_commit g l hn w210 (xs (v0 + 1).toNatClampNeg) mm v213 m214 e212) gL_law_X7_commit rfl (by decide +kernel) rfl hl.1 rfl (by simp [rv_cat, ct_i, ct_l]) ⟨by decide, by decide⟩ dL_law_714 (fun H lc cn sn hw => ?_)
          refine lv_istore (lv' := [(6, .int v213), (5, .int v209), (0, .ref b), (1, rv o), (2, .ref (gmd g 32)), (3, rv q), (4, .int v0)]) hx hb dL_law_717 hl (by decide) rfl (fun ls hl => ?_)
          refine lv_aload_n hx hb dL_law_719 rfl (lv_at hl 4 rfl) ?_
          obtain ⟨v216, e215, h⟩ := ob h
          refine m_callI (n := 0) (As := []) (rest := []) hX hn hw (c_X7_thrown g l hn w210  m214 v216 e215) gL_law_X7_thrown rfl (by decide +kernel) rfl hl.1 rfl (by simp [rv_cat, ct_i, ct_l]) ⟨by decide, by decide⟩ dL_law_720 (fun H lc cn sn hw => ?_)
          refine lv_iload hx hb dL_law_723 (lv_at hl 1 rfl) ?_
          refine lv_icmp_eq (tgt := 730) hx hb dL_law_725 (by decide) (fun c217 => ?_) (fun c217 => ?_)
          · replace h := ot c217 h
            refine lv_iload hx hb dL_law_730 (lv_at hl 1 rfl) ?_
            refine lv_if_ne (tgt := 747) hx hb dL_law_732 (by decide) (fun c218 => ?_) (fun c218 => ?_)
            · replace h := oe c218 h
              refine lv_goto (tgt := 1411) hx hb dL_law_747 (by decide) ?_
              refine lv_iinc (v := (v0 + 7)) (lv' := [(4, .int (v0 + 7)), (6, .int v213), (5, .int v209), (0, .ref b), (1, rv o), (2, .ref (gmd g 32)), (3, rv q)]) hx hb dL_law_1411 hl (k := 6) rfl (by rfl) (by decide) (by simp [rv_cat, ct_i, ct_l] <;> decide) (fun ls hl => ?_)
              refine lv_goto (tgt := 23) hx hb dL_law_1414 (by decide) ?_
              exact ih _ _ _ _ _ _ _ _ h hw (lv_sub hl [3, 4, 5, 6, 0] rfl)
            · replace h := ot c218 h
              refine t_aload_n hx hb dL_law_735 rfl (lv_at hl 5 rfl) ?_
              refine lv_iconst (v := 0) hx hb dL_law_736 (by decide) ?_
              obtain ⟨c219, h⟩ := og h
              obtain ⟨c220, h⟩ := og h
              refine c_lld hX hw c219 c220 dL_law_737 ?_
              refine lv_iload hx hb dL_law_738 (lv_at hl 0 rfl) ?_
              refine lv_i2l (v := v213.toInt64) hx hb dL_law_740 rfl ?_
              refine W.lcmp hx hb dL_law_741 ?_
              refine lv_if_eq (tgt := 747) hx hb dL_law_742 (by decide) (fun c221 => ?_) (fun c221 => ?_)
              · replace h := ot c221 h
                refine lv_goto (tgt := 1411) hx hb dL_law_747 (by decide) ?_
                refine lv_iinc (v := (v0 + 7)) (lv' := [(4, .int (v0 + 7)), (6, .int v213), (5, .int v209), (0, .ref b), (1, rv o), (2, .ref (gmd g 32)), (3, rv q)]) hx hb dL_law_1411 hl (k := 6) rfl (by rfl) (by decide) (by simp [rv_cat, ct_i, ct_l] <;> decide) (fun ls hl => ?_)
                refine lv_goto (tgt := 23) hx hb dL_law_1414 (by decide) ?_
                exact ih _ _ _ _ _ _ _ _ h hw (lv_sub hl [3, 4, 5, 6, 0] rfl)
              · replace h := oe c221 h
                refine lv_iconst (v := 0) hx hb dL_law_745 (by decide) ?_
                exact hret _ _ _ _ _ _ _ _ dL_law_746 hw (Option.some.inj h)
          · replace h := oe c217 h
            refine lv_iconst (v := 0) hx hb dL_law_728 (by decide) ?_
            exact hret _ _ _ _ _ _ _ _ dL_law_729 hw (Option.some.inj h)
        · show W p l e (rmO g 20 784 s.heap) s mi args below meth cd H lc cn sn Q (F0 mi 750 ls [])
          replace h := oe (by omega) h
          replace h := oe (by omega) h
          replace h := oe (by omega) h
          replace h := oe (by omega) h
          replace h := oe (by omega) h
          replace h := oe (by omega) h
          replace h := oe (by omega) h
          replace h := oe (by omega) h
          replace h := oe (by omega) h
          replace h := oe (by omega) h
          replace h := oe (by omega) h
          replace h := ot hji h
          refine t_aload_n hx hb dL_law_750 rfl (lv_at hl 1 rfl) ?_
          refine lv_aload_n hx hb dL_law_751 rfl (lv_at hl 0 rfl) ?_
          refine lv_iload hx hb dL_law_752 (lv_at hl 4 rfl) ?_
          refine lv_iconst (v := 1) hx hb dL_law_754 (by decide) ?_
          refine lv_iadd hx hb dL_law_755 ?_
          obtain ⟨c222, h⟩ := og h
          refine c_sld hX hw hS c222 dL_law_756 ?_
          refine t_aload_n hx hb dL_law_757 rfl (lv_at hl 3 rfl) ?_
          obtain ⟨v224, w225, e223, h⟩ := oc2 h
          refine g_callSWi (n := 3) (As := [rv o, .int (xs (v0 + 1).toNatClampNeg), rv q]) (rest := []) hX hw (c_L_abort g l hG hC hst mm o (xs (v0 + 1).toNatClampNeg) q w v224 w225 e223) gL_law_L_abort rfl (by decide +kernel) rfl hl.1 rfl (by simp [rv_cat, ct_i, ct_l]) ⟨by decide, by decide⟩ dL_law_758 (fun H lc cn sn hw => ?_)
          refine lv_istore (lv' := [(5, .int v224), (0, .ref b), (1, rv o), (2, .ref (gmd g 32)), (3, rv q), (4, .int v0)]) hx hb dL_law_761 hl (by decide) rfl (fun ls hl => ?_)
          refine lv_aload_n hx hb dL_law_763 rfl (lv_at hl 3 rfl) ?_
          refine lv_aload_n hx hb dL_law_764 rfl (lv_at hl 1 rfl) ?_
          refine lv_iload hx hb dL_law_765 (lv_at hl 5 rfl) ?_
          refine lv_iconst (v := 1) hx hb dL_law_767 (by decide) ?_
          refine lv_iadd hx hb dL_law_768 ?_
          obtain ⟨c226, h⟩ := og h
          refine c_sld hX hw hS c226 dL_law_769 ?_
          obtain ⟨v228, m229, e227, h⟩ := oc2 h
          refine m_callI (n := 1) (As := [.int (xs (v0 + 1).toNatClampNeg)]) (rest := []) hX hn hw (c_X7_abort g l hn w225 (xs (v0 + 1).toNatClampNeg) mm v228 m229 e227) gL_law_X7_abort rfl (by decide +kernel) rfl hl.1 rfl (by simp [rv_cat, ct_i, ct_l]) ⟨by decide, by decide⟩ dL_law_770 (fun H lc cn sn hw => ?_)
          refine lv_istore (lv' := [(6, .int v228), (5, .int v224), (0, .ref b), (1, rv o), (2, .ref (gmd g 32)), (3, rv q), (4, .int v0)]) hx hb dL_law_773 hl (by decide) rfl (fun ls hl => ?_)
          refine lv_aload_n hx hb dL_law_775 rfl (lv_at hl 4 rfl) ?_
          obtain ⟨v231, e230, h⟩ := ob h
          refine m_callI (n := 0) (As := []) (rest := []) hX hn hw (c_X7_thrown g l hn w225  m229 v231 e230) gL_law_X7_thrown rfl (by decide +kernel) rfl hl.1 rfl (by simp [rv_cat, ct_i, ct_l]) ⟨by decide, by decide⟩ dL_law_776 (fun H lc cn sn hw => ?_)
          refine lv_iload hx hb dL_law_779 (lv_at hl 1 rfl) ?_
          refine lv_icmp_eq (tgt := 786) hx hb dL_law_781 (by decide) (fun c232 => ?_) (fun c232 => ?_)
          · replace h := ot c232 h
            refine lv_iload hx hb dL_law_786 (lv_at hl 1 rfl) ?_
            refine lv_if_ne (tgt := 803) hx hb dL_law_788 (by decide) (fun c233 => ?_) (fun c233 => ?_)
            · replace h := oe c233 h
              refine lv_goto (tgt := 1411) hx hb dL_law_803 (by decide) ?_
              refine lv_iinc (v := (v0 + 7)) (lv' := [(4, .int (v0 + 7)), (6, .int v228), (5, .int v224), (0, .ref b), (1, rv o), (2, .ref (gmd g 32)), (3, rv q)]) hx hb dL_law_1411 hl (k := 6) rfl (by rfl) (by decide) (by simp [rv_cat, ct_i, ct_l] <;> decide) (fun ls hl => ?_)
              refine lv_goto (tgt := 23) hx hb dL_law_1414 (by decide) ?_
              exact ih _ _ _ _ _ _ _ _ h hw (lv_sub hl [3, 4, 5, 6, 0] rfl)
            · replace h := ot c233 h
              refine t_aload_n hx hb dL_law_791 rfl (lv_at hl 5 rfl) ?_
              refine lv_iconst (v := 0) hx hb dL_law_792 (by decide) ?_
              obtain ⟨c234, h⟩ := og h
              obtain ⟨c235, h⟩ := og h
              refine c_lld hX hw c234 c235 dL_law_793 ?_
              refine lv_iload hx hb dL_law_794 (lv_at hl 0 rfl) ?_
              refine lv_i2l (v := v228.toInt64) hx hb dL_law_796 rfl ?_
              refine W.lcmp hx hb dL_law_797 ?_
              refine lv_if_eq (tgt := 803) hx hb dL_law_798 (by decide) (fun c236 => ?_) (fun c236 => ?_)
              · replace h := ot c236 h
                refine lv_goto (tgt := 1411) hx hb dL_law_803 (by decide) ?_
                refine lv_iinc (v := (v0 + 7)) (lv' := [(4, .int (v0 + 7)), (6, .int v228), (5, .int v224), (0, .ref b), (1, rv o), (2, .ref (gmd g 32)), (3, rv q)]) hx hb dL_law_1411 hl (k := 6) rfl (by rfl) (by decide) (by simp [rv_cat, ct_i, ct_l] <;> decide) (fun ls hl => ?_)
                refine lv_goto (tgt := 23) hx hb dL_law_1414 (by decide) ?_
                exact ih _ _ _ _ _ _ _ _ h hw (lv_sub hl [3, 4, 5, 6, 0] rfl)
              · replace h := oe c236 h
                refine lv_iconst (v := 0) hx hb dL_law_801 (by decide) ?_
                exact hret _ _ _ _ _ _ _ _ dL_law_802 hw (Option.some.inj h)
          · replace h := oe c232 h
            refine lv_iconst (v := 0) hx hb dL_law_784 (by decide) ?_
            exact hret _ _ _ _ _ _ _ _ dL_law_785 hw (Option.some.inj h)
        · show W p l e (rmO g 20 784 s.heap) s mi args below meth cd H lc cn sn Q (F0 mi 806 ls [])
          replace h := oe (by omega) h
          replace h := oe (by omega) h
          replace h := oe (by omega) h
          replace h := oe (by omega) h
          replace h := oe (by omega) h
          replace h := oe (by omega) h
          replace h := oe (by omega) h
          replace h := oe (by omega) h
          replace h := oe (by omega) h
          replace h := oe (by omega) h
          replace h := oe (by omega) h
          replace h := oe (by omega) h
          replace h := ot hji h
          refine t_aload_n hx hb dL_law_806 rfl (lv_at hl 1 rfl) ?_
          refine lv_aload_n hx hb dL_law_807 rfl (lv_at hl 0 rfl) ?_
          refine lv_iload hx hb dL_law_808 (lv_at hl 4 rfl) ?_
          refine lv_iconst (v := 1) hx hb dL_law_810 (by decide) ?_
          refine lv_iadd hx hb dL_law_811 ?_
          obtain ⟨c237, h⟩ := og h
          refine c_sld hX hw hS c237 dL_law_812 ?_
          refine lv_aload_n hx hb dL_law_813 rfl (lv_at hl 0 rfl) ?_
          refine lv_iload hx hb dL_law_814 (lv_at hl 4 rfl) ?_
          refine lv_iconst (v := 2) hx hb dL_law_816 (by decide) ?_
          refine lv_iadd hx hb dL_law_817 ?_
          obtain ⟨c238, h⟩ := og h
          refine c_sld hX hw hS c238 dL_law_818 ?_
          refine lv_aload_n hx hb dL_law_819 rfl (lv_at hl 0 rfl) ?_
          refine lv_iload hx hb dL_law_820 (lv_at hl 4 rfl) ?_
          refine lv_iconst (v := 3) hx hb dL_law_822 (by decide) ?_
          refine lv_iadd hx hb dL_law_823 ?_
          obtain ⟨c239, h⟩ := og h
          refine c_sld hX hw hS c239 dL_law_824 ?_
          refine lv_aload_n hx hb dL_law_825 rfl (lv_at hl 0 rfl) ?_
          refine lv_iload hx hb dL_law_826 (lv_at hl 4 rfl) ?_
          refine lv_iconst (v := 4) hx hb dL_law_828 (by decide) ?_
          refine lv_iadd hx hb dL_law_829 ?_
          obtain ⟨c240, h⟩ := og h
          refine c_sld hX hw hS c240 dL_law_830 ?_
          refine lv_aload_n hx hb dL_law_831 rfl (lv_at hl 0 rfl) ?_
          refine lv_iload hx hb dL_law_832 (lv_at hl 4 rfl) ?_
          refine lv_iconst (v := 5) hx hb dL_law_834 (by decide) ?_
          refine lv_iadd hx hb dL_law_835 ?_
          obtain ⟨c241, h⟩ := og h
          refine c_sld hX hw hS c241 dL_law_836 ?_
          refine lv_aload_n hx hb dL_law_837 rfl (lv_at hl 0 rfl) ?_
          refine lv_iload hx hb dL_law_838 (lv_at hl 4 rfl) ?_
          refine lv_bipush (v := 6) hx hb dL_law_840 (by decide) ?_
          refine lv_iadd hx hb dL_law_842 ?_
          obtain ⟨c242, h⟩ := og h
          refine c_sld hX hw hS c242 dL_law_843 ?_
          refine t_aload_n hx hb dL_law_844 rfl (lv_at hl 3 rfl) ?_
          obtain ⟨v244, w245, e243, h⟩ := oc2 h
          refine g_callSWi (n := 8) (As := [rv o, .int (xs (v0 + 1).toNatClampNeg), .int (xs (v0 + 2).toNatClampNeg), .int (xs (v0 + 3).toNatClampNeg), .int (xs (v0 + 4).toNatClampNeg), .int (xs (v0 + 5).toNatClampNeg), .int (xs (v0 + 6).toNatClampNeg), rv q]) (rest := []) hX hw (c_L_put g l hG hC hst mm o (xs (v0 + 1).toNatClampNeg) (xs (v0 + 2).toNatClampNeg) (xs (v0 + 3).toNatClampNeg) (xs (v0 + 4).toNatClampNeg) (xs (v0 + 5).toNatClampNeg) (xs (v0 + 6).toNatClampNeg) q w v244 w245 e243) gL_law_L_put rfl (by decide +kernel) rfl hl.1 rfl (by simp [rv_cat, ct_i, ct_l]) ⟨by decide, by decide⟩ dL_law_845 (fun H lc cn sn hw => ?_)
          refine lv_istore (lv' := [(5, .int v244), (0, .ref b), (1, rv o), (2, .ref (gmd g 32)), (3, rv q), (4, .int v0)]) hx hb dL_law_848 hl (by decide) rfl (fun ls hl => ?_)
          refine lv_aload_n hx hb dL_law_850 rfl (lv_at hl 3 rfl) ?_
          refine lv_aload_n hx hb dL_law_851 rfl (lv_at hl 1 rfl) ?_
          refine lv_iload hx hb dL_law_852 (lv_at hl 5 rfl) ?_
          refine lv_iconst (v := 1) hx hb dL_law_854 (by decide) ?_
          refine lv_iadd hx hb dL_law_855 ?_
          obtain ⟨c246, h⟩ := og h
          refine c_sld hX hw hS c246 dL_law_856 ?_
          refine lv_aload_n hx hb dL_law_857 rfl (lv_at hl 1 rfl) ?_
          refine lv_iload hx hb dL_law_858 (lv_at hl 5 rfl) ?_
          refine lv_iconst (v := 2) hx hb dL_law_860 (by decide) ?_
          refine lv_iadd hx hb dL_law_861 ?_
          obtain ⟨c247, h⟩ := og h
          refine c_sld hX hw hS c247 dL_law_862 ?_
          refine lv_aload_n hx hb dL_law_863 rfl (lv_at hl 1 rfl) ?_
          refine lv_iload hx hb dL_law_864 (lv_at hl 5 rfl) ?_
          refine lv_iconst (v := 3) hx hb dL_law_866 (by decide) ?_
          refine lv_iadd hx hb dL_law_867 ?_
          obtain ⟨c248, h⟩ := og h
          refine c_sld hX hw hS c248 dL_law_868 ?_
          refine lv_aload_n hx hb dL_law_869 rfl (lv_at hl 1 rfl) ?_
          refine lv_iload hx hb dL_law_870 (lv_at hl 5 rfl) ?_
          refine lv_iconst (v := 4) hx hb dL_law_872 (by decide) ?_
          refine lv_iadd hx hb dL_law_873 ?_
          obtain ⟨c249, h⟩ := og h
          refine c_sld hX hw hS c249 dL_law_874 ?_
          refine lv_aload_n hx hb dL_law_875 rfl (lv_at hl 1 rfl) ?_
          refine lv_iload hx hb dL_law_876 (lv_at hl 5 rfl) ?_
          refine lv_iconst (v := 5) hx hb dL_law_878 (by decide) ?_
          refine lv_iadd hx hb dL_law_879 ?_
          obtain ⟨c250, h⟩ := og h
          refine c_sld hX hw hS c250 dL_law_880 ?_
          refine lv_aload_n hx hb dL_law_881 rfl (lv_at hl 1 rfl) ?_
          refine lv_iload hx hb dL_law_882 (lv_at hl 5 rfl) ?_
          refine lv_bipush (v := 6) hx hb dL_law_884 (by decide) ?_
          refine lv_iadd hx hb dL_law_886 ?_
          obtain ⟨c251, h⟩ := og h
          refine c_sld hX hw hS c251 dL_law_887 ?_
          obtain ⟨v253, m254, e252, h⟩ := oc2 h
          refine m_callI (n := 6) (As := [.int (xs (v0 + 1).toNatClampNeg), .int (xs (v0 + 2).toNatClampNeg), .int (xs (v0 + 3).toNatClampNeg), .int (xs (v0 + 4).toNatClampNeg), .int (xs (v0 + 5).toNatClampNeg), .int (xs (v0 + 6).toNatClampNeg)]) (rest := []) hX hn hw (c_X7_put g l hn w245 (xs (v0 + 1).toNatClampNeg) (xs (v0 + 2).toNatClampNeg) (xs (v0 + 3).toNatClampNeg) (xs (v0 + 4).toNatClampNeg) (xs (v0 + 5).toNatClampNeg) (xs (v0 + 6).toNatClampNeg) mm v253 m254 e252) gL_law_X7_put rfl (by decide +kernel) rfl hl.1 rfl (by simp [rv_cat, ct_i, ct_l]) ⟨by decide, by decide⟩ dL_law_888 (fun H lc cn sn hw => ?_)
          refine lv_istore (lv' := [(6, .int v253), (5, .int v244), (0, .ref b), (1, rv o), (2, .ref (gmd g 32)), (3, rv q), (4, .int v0)]) hx hb dL_law_891 hl (by decide) rfl (fun ls hl => ?_)
          refine lv_aload_n hx hb dL_law_893 rfl (lv_at hl 4 rfl) ?_
          obtain ⟨v256, e255, h⟩ := ob h
          refine m_callI (n := 0) (As := []) (rest := []) hX hn hw (c_X7_thrown g l hn w245  m254 v256 e255) gL_law_X7_thrown rfl (by decide +kernel) rfl hl.1 rfl (by simp [rv_cat, ct_i, ct_l]) ⟨by decide, by decide⟩ dL_law_894 (fun H lc cn sn hw => ?_)
          refine lv_iload hx hb dL_law_897 (lv_at hl 1 rfl) ?_
          refine lv_icmp_eq (tgt := 904) hx hb dL_law_899 (by decide) (fun c257 => ?_) (fun c257 => ?_)
          · replace h := ot c257 h
            refine lv_iload hx hb dL_law_904 (lv_at hl 1 rfl) ?_
            refine lv_if_ne (tgt := 928) hx hb dL_law_906 (by decide) (fun c258 => ?_) (fun c258 => ?_)
            · replace h := oe c258 h
              refine lv_goto (tgt := 1411) hx hb dL_law_928 (by decide) ?_
              refine lv_iinc (v := (v0 + 7)) (lv' := [(4, .int (v0 + 7)), (6, .int v253), (5, .int v244), (0, .ref b), (1, rv o), (2, .ref (gmd g 32)), (3, rv q)]) hx hb dL_law_1411 hl (k := 6) rfl (by rfl) (by decide) (by simp [rv_cat, ct_i, ct_l] <;> decide) (fun ls hl => ?_)
              refine lv_goto (tgt := 23) hx hb dL_law_1414 (by decide) ?_
              exact ih _ _ _ _ _ _ _ _ h hw (lv_sub hl [3, 4, 5, 6, 0] rfl)
            · replace h := ot c258 h
              refine t_aload_n hx hb dL_law_909 rfl (lv_at hl 5 rfl) ?_
              refine lv_iconst (v := 0) hx hb dL_law_910 (by decide) ?_
              obtain ⟨c259, h⟩ := og h
              obtain ⟨c260, h⟩ := og h
              refine c_lld hX hw c259 c260 dL_law_911 ?_
              refine lv_iload hx hb dL_law_912 (lv_at hl 0 rfl) ?_
              refine lv_if_eq (tgt := 921) hx hb dL_law_914 (by decide) (fun c261 => ?_) (fun c261 => ?_)
              · replace h := ot c261 h
                refine lv_lconst (v := 0) hx hb dL_law_921 (by decide) ?_
                refine W.lcmp hx hb dL_law_922 ?_
                refine lv_if_eq (tgt := 928) hx hb dL_law_923 (by decide) (fun c262 => ?_) (fun c262 => ?_)
                · replace h := ot c262 h
                  refine lv_goto (tgt := 1411) hx hb dL_law_928 (by decide) ?_
                  refine lv_iinc (v := (v0 + 7)) (lv' := [(4, .int (v0 + 7)), (6, .int v253), (5, .int v244), (0, .ref b), (1, rv o), (2, .ref (gmd g 32)), (3, rv q)]) hx hb dL_law_1411 hl (k := 6) rfl (by rfl) (by decide) (by simp [rv_cat, ct_i, ct_l] <;> decide) (fun ls hl => ?_)
                  refine lv_goto (tgt := 23) hx hb dL_law_1414 (by decide) ?_
                  exact ih _ _ _ _ _ _ _ _ h hw (lv_sub hl [3, 4, 5, 6, 0] rfl)
                · replace h := oe c262 h
                  refine lv_iconst (v := 0) hx hb dL_law_926 (by decide) ?_
                  exact hret _ _ _ _ _ _ _ _ dL_law_927 hw (Option.some.inj h)
              · replace h := oe c261 h
                refine lv_lconst (v := 1) hx hb dL_law_917 (by decide) ?_
                refine lv_goto (tgt := 922) hx hb dL_law_918 (by decide) ?_
                refine W.lcmp hx hb dL_law_922 ?_
                refine lv_if_eq (tgt := 928) hx hb dL_law_923 (by decide) (fun c263 => ?_) (fun c263 => ?_)
                · replace h := ot c263 h
                  refine lv_goto (tgt := 1411) hx hb dL_law_928 (by decide) ?_
                  refine lv_iinc (v := (v0 + 7)) (lv' := [(4, .int (v0 + 7)), (6, .int v253), (5, .int v244), (0, .ref b), (1, rv o), (2, .ref (gmd g 32)), (3, rv q)]) hx hb dL_law_1411 hl (k := 6) rfl (by rfl) (by decide) (by simp [rv_cat, ct_i, ct_l] <;> decide) (fun ls hl => ?_)
                  refine lv_goto (tgt := 23) hx hb dL_law_1414 (by decide) ?_
                  exact ih _ _ _ _ _ _ _ _ h hw (lv_sub hl [3, 4, 5, 6, 0] rfl)
                · replace h := oe c263 h
                  refine lv_iconst (v := 0) hx hb dL_law_926 (by decide) ?_
                  exact hret _ _ _ _ _ _ _ _ dL_law_927 hw (Option.some.inj h)
          · replace h := oe c257 h
            refine lv_iconst (v := 0) hx hb dL_law_902 (by decide) ?_
            exact hret _ _ _ _ _ _ _ _ dL_law_903 hw (Option.some.inj h)
        · show W p l e (rmO g 20 784 s.heap) s mi args below meth cd H lc cn sn Q (F0 mi 931 ls [])
          replace h := oe (by omega) h
          replace h := oe (by omega) h
          replace h := oe (by omega) h
          replace h := oe (by omega) h
          replace h := oe (by omega) h
          replace h := oe (by omega) h
          replace h := oe (by omega) h
          replace h := oe (by omega) h
          replace h := oe (by omega) h
          replace h := oe (by omega) h
          replace h := oe (by omega) h
          replace h := oe (by omega) h
          replace h := oe (by omega) h
          replace h := ot hji h
          refine t_aload_n hx hb dL_law_931 rfl (lv_at hl 1 rfl) ?_
          refine lv_aload_n hx hb dL_law_932 rfl (lv_at hl 0 rfl) ?_
          refine lv_iload hx hb dL_law_933 (lv_at hl 4 rfl) ?_
          refine lv_iconst (v := 1) hx hb dL_law_935 (by decide) ?_
          refine lv_iadd hx hb dL_law_936 ?_
          obtain ⟨c264, h⟩ := og h
          refine c_sld hX hw hS c264 dL_law_937 ?_
          refine lv_aload_n hx hb dL_law_938 rfl (lv_at hl 0 rfl) ?_
          refine lv_iload hx hb dL_law_939 (lv_at hl 4 rfl) ?_
          refine lv_iconst (v := 2) hx hb dL_law_941 (by decide) ?_
          refine lv_iadd hx hb dL_law_942 ?_
          obtain ⟨c265, h⟩ := og h
          refine c_sld hX hw hS c265 dL_law_943 ?_
          refine lv_aload_n hx hb dL_law_944 rfl (lv_at hl 0 rfl) ?_
          refine lv_iload hx hb dL_law_945 (lv_at hl 4 rfl) ?_
          refine lv_iconst (v := 3) hx hb dL_law_947 (by decide) ?_
          refine lv_iadd hx hb dL_law_948 ?_
          obtain ⟨c266, h⟩ := og h
          refine c_sld hX hw hS c266 dL_law_949 ?_
          refine lv_aload_n hx hb dL_law_950 rfl (lv_at hl 0 rfl) ?_
          refine lv_iload hx hb dL_law_951 (lv_at hl 4 rfl) ?_
          refine lv_iconst (v := 4) hx hb dL_law_953 (by decide) ?_
          refine lv_iadd hx hb dL_law_954 ?_
          obtain ⟨c267, h⟩ := og h
          refine c_sld hX hw hS c267 dL_law_955 ?_
          refine t_aload_n hx hb dL_law_956 rfl (lv_at hl 3 rfl) ?_
          obtain ⟨v269, w270, e268, h⟩ := oc2 h
          refine g_callSWi (n := 6) (As := [rv o, .int (xs (v0 + 1).toNatClampNeg), .int (xs (v0 + 2).toNatClampNeg), .int (xs (v0 + 3).toNatClampNeg), .int (xs (v0 + 4).toNatClampNeg), rv q]) (rest := []) hX hw (c_L_remove g l hG hC hst mm o (xs (v0 + 1).toNatClampNeg) (xs (v0 + 2).toNatClampNeg) (xs (v0 + 3).toNatClampNeg) (xs (v0 + 4).toNatClampNeg) q w v269 w270 e268) gL_law_L_remove rfl (by decide +kernel) rfl hl.1 rfl (by simp [rv_cat, ct_i, ct_l]) ⟨by decide, by decide⟩ dL_law_957 (fun H lc cn sn hw => ?_)
          refine lv_istore (lv' := [(5, .int v269), (0, .ref b), (1, rv o), (2, .ref (gmd g 32)), (3, rv q), (4, .int v0)]) hx hb dL_law_960 hl (by decide) rfl (fun ls hl => ?_)
          refine lv_aload_n hx hb dL_law_962 rfl (lv_at hl 3 rfl) ?_
          refine lv_aload_n hx hb dL_law_963 rfl (lv_at hl 1 rfl) ?_
          refine lv_iload hx hb dL_law_964 (lv_at hl 5 rfl) ?_
          refine lv_iconst (v := 1) hx hb dL_law_966 (by decide) ?_
          refine lv_iadd hx hb dL_law_967 ?_
          obtain ⟨c271, h⟩ := og h
          refine c_sld hX hw hS c271 dL_law_968 ?_
          refine lv_aload_n hx hb dL_law_969 rfl (lv_at hl 1 rfl) ?_
          refine lv_iload hx hb dL_law_970 (lv_at hl 5 rfl) ?_
          refine lv_iconst (v := 2) hx hb dL_law_972 (by decide) ?_
          refine lv_iadd hx hb dL_law_973 ?_
          obtain ⟨c272, h⟩ := og h
          refine c_sld hX hw hS c272 dL_law_974 ?_
          refine lv_aload_n hx hb dL_law_975 rfl (lv_at hl 1 rfl) ?_
          refine lv_iload hx hb dL_law_976 (lv_at hl 5 rfl) ?_
          refine lv_iconst (v := 3) hx hb dL_law_978 (by decide) ?_
          refine lv_iadd hx hb dL_law_979 ?_
          obtain ⟨c273, h⟩ := og h
          refine c_sld hX hw hS c273 dL_law_980 ?_
          refine lv_aload_n hx hb dL_law_981 rfl (lv_at hl 1 rfl) ?_
          refine lv_iload hx hb dL_law_982 (lv_at hl 5 rfl) ?_
          refine lv_iconst (v := 4) hx hb dL_law_984 (by decide) ?_
          refine lv_iadd hx hb dL_law_985 ?_
          obtain ⟨c274, h⟩ := og h
          refine c_sld hX hw hS c274 dL_law_986 ?_
          obtain ⟨v276, m277, e275, h⟩ := oc2 h
          refine m_callI (n := 4) (As := [.int (xs (v0 + 1).toNatClampNeg), .int (xs (v0 + 2).toNatClampNeg), .int (xs (v0 + 3).toNatClampNeg), .int (xs (v0 + 4).toNatClampNeg)]) (rest := []) hX hn hw (c_X7_remove g l hn w270 (xs (v0 + 1).toNatClampNeg) (xs (v0 + 2).toNatClampNeg) (xs (v0 + 3).toNatClampNeg) (xs (v0 + 4).toNatClampNeg) mm v276 m277 e275) gL_law_X7_remove rfl (by decide +kernel) rfl hl.1 rfl (by simp [rv_cat, ct_i, ct_l]) ⟨by decide, by decide⟩ dL_law_987 (fun H lc cn sn hw => ?_)
          refine lv_istore (lv' := [(6, .int v276), (5, .int v269), (0, .ref b), (1, rv o), (2, .ref (gmd g 32)), (3, rv q), (4, .int v0)]) hx hb dL_law_990 hl (by decide) rfl (fun ls hl => ?_)
          refine lv_aload_n hx hb dL_law_992 rfl (lv_at hl 4 rfl) ?_
          obtain ⟨v279, e278, h⟩ := ob h
          refine m_callI (n := 0) (As := []) (rest := []) hX hn hw (c_X7_thrown g l hn w270  m277 v279 e278) gL_law_X7_thrown rfl (by decide +kernel) rfl hl.1 rfl (by simp [rv_cat, ct_i, ct_l]) ⟨by decide, by decide⟩ dL_law_993 (fun H lc cn sn hw => ?_)
          refine lv_iload hx hb dL_law_996 (lv_at hl 1 rfl) ?_
          refine lv_icmp_eq (tgt := 1003) hx hb dL_law_998 (by decide) (fun c280 => ?_) (fun c280 => ?_)
          · replace h := ot c280 h
            refine lv_iload hx hb dL_law_1003 (lv_at hl 1 rfl) ?_
            refine lv_if_ne (tgt := 1020) hx hb dL_law_1005 (by decide) (fun c281 => ?_) (fun c281 => ?_)
            · replace h := oe c281 h
              refine lv_goto (tgt := 1411) hx hb dL_law_1020 (by decide) ?_
              refine lv_iinc (v := (v0 + 7)) (lv' := [(4, .int (v0 + 7)), (6, .int v276), (5, .int v269), (0, .ref b), (1, rv o), (2, .ref (gmd g 32)), (3, rv q)]) hx hb dL_law_1411 hl (k := 6) rfl (by rfl) (by decide) (by simp [rv_cat, ct_i, ct_l] <;> decide) (fun ls hl => ?_)
              refine lv_goto (tgt := 23) hx hb dL_law_1414 (by decide) ?_
              exact ih _ _ _ _ _ _ _ _ h hw (lv_sub hl [3, 4, 5, 6, 0] rfl)
            · replace h := ot c281 h
              refine t_aload_n hx hb dL_law_1008 rfl (lv_at hl 5 rfl) ?_
              refine lv_iconst (v := 0) hx hb dL_law_1009 (by decide) ?_
              obtain ⟨c282, h⟩ := og h
              obtain ⟨c283, h⟩ := og h
              refine c_lld hX hw c282 c283 dL_law_1010 ?_
              refine lv_iload hx hb dL_law_1011 (lv_at hl 0 rfl) ?_
              refine lv_i2l (v := v276.toInt64) hx hb dL_law_1013 rfl ?_
              refine W.lcmp hx hb dL_law_1014 ?_
              refine lv_if_eq (tgt := 1020) hx hb dL_law_1015 (by decide) (fun c284 => ?_) (fun c284 => ?_)
              · replace h := ot c284 h
                refine lv_goto (tgt := 1411) hx hb dL_law_1020 (by decide) ?_
                refine lv_iinc (v := (v0 + 7)) (lv' := [(4, .int (v0 + 7)), (6, .int v276), (5, .int v269), (0, .ref b), (1, rv o), (2, .ref (gmd g 32)), (3, rv q)]) hx hb dL_law_1411 hl (k := 6) rfl (by rfl) (by decide) (by simp [rv_cat, ct_i, ct_l] <;> decide) (fun ls hl => ?_)
                refine lv_goto (tgt := 23) hx hb dL_law_1414 (by decide) ?_
                exact ih _ _ _ _ _ _ _ _ h hw (lv_sub hl [3, 4, 5, 6, 0] rfl)
              · replace h := oe c284 h
                refine lv_iconst (v := 0) hx hb dL_law_1018 (by decide) ?_
                exact hret _ _ _ _ _ _ _ _ dL_law_1019 hw (Option.some.inj h)
          · replace h := oe c280 h
            refine lv_iconst (v := 0) hx hb dL_law_1001 (by decide) ?_
            exact hret _ _ _ _ _ _ _ _ dL_law_1002 hw (Option.some.inj h)
        · show W p l e (rmO g 20 784 s.heap) s mi args below meth cd H lc cn sn Q (F0 mi 1023 ls [])
          replace h := oe (by omega) h
          replace h := oe (by omega) h
          replace h := oe (by omega) h
          replace h := oe (by omega) h
          replace h := oe (by omega) h
          replace h := oe (by omega) h
          replace h := oe (by omega) h
          replace h := oe (by omega) h
          replace h := oe (by omega) h
          replace h := oe (by omega) h
          replace h := oe (by omega) h
          replace h := oe (by omega) h
          replace h := oe (by omega) h
          replace h := oe (by omega) h
          replace h := ot hji h
          refine t_aload_n hx hb dL_law_1023 rfl (lv_at hl 1 rfl) ?_
          refine lv_aload_n hx hb dL_law_1024 rfl (lv_at hl 0 rfl) ?_
          refine lv_iload hx hb dL_law_1025 (lv_at hl 4 rfl) ?_
          refine lv_iconst (v := 1) hx hb dL_law_1027 (by decide) ?_
          refine lv_iadd hx hb dL_law_1028 ?_
          obtain ⟨c285, h⟩ := og h
          refine c_sld hX hw hS c285 dL_law_1029 ?_
          refine lv_aload_n hx hb dL_law_1030 rfl (lv_at hl 0 rfl) ?_
          refine lv_iload hx hb dL_law_1031 (lv_at hl 4 rfl) ?_
          refine lv_iconst (v := 2) hx hb dL_law_1033 (by decide) ?_
          refine lv_iadd hx hb dL_law_1034 ?_
          obtain ⟨c286, h⟩ := og h
          refine c_sld hX hw hS c286 dL_law_1035 ?_
          refine lv_aload_n hx hb dL_law_1036 rfl (lv_at hl 0 rfl) ?_
          refine lv_iload hx hb dL_law_1037 (lv_at hl 4 rfl) ?_
          refine lv_iconst (v := 3) hx hb dL_law_1039 (by decide) ?_
          refine lv_iadd hx hb dL_law_1040 ?_
          obtain ⟨c287, h⟩ := og h
          refine c_sld hX hw hS c287 dL_law_1041 ?_
          refine t_aload_n hx hb dL_law_1042 rfl (lv_at hl 3 rfl) ?_
          obtain ⟨v289, w290, e288, h⟩ := oc2 h
          refine g_callSWi (n := 5) (As := [rv o, .int (xs (v0 + 1).toNatClampNeg), .int (xs (v0 + 2).toNatClampNeg), .int (xs (v0 + 3).toNatClampNeg), rv q]) (rest := []) hX hw (c_L_get g l hG hC hst mm o (xs (v0 + 1).toNatClampNeg) (xs (v0 + 2).toNatClampNeg) (xs (v0 + 3).toNatClampNeg) q w v289 w290 e288) gL_law_L_get rfl (by decide +kernel) rfl hl.1 rfl (by simp [rv_cat, ct_i, ct_l]) ⟨by decide, by decide⟩ dL_law_1043 (fun H lc cn sn hw => ?_)
          refine lv_istore (lv' := [(5, .int v289), (0, .ref b), (1, rv o), (2, .ref (gmd g 32)), (3, rv q), (4, .int v0)]) hx hb dL_law_1046 hl (by decide) rfl (fun ls hl => ?_)
          refine lv_aload_n hx hb dL_law_1048 rfl (lv_at hl 3 rfl) ?_
          refine lv_aload_n hx hb dL_law_1049 rfl (lv_at hl 1 rfl) ?_
          refine lv_iload hx hb dL_law_1050 (lv_at hl 5 rfl) ?_
          refine lv_iconst (v := 1) hx hb dL_law_1052 (by decide) ?_
          refine lv_iadd hx hb dL_law_1053 ?_
          obtain ⟨c291, h⟩ := og h
          refine c_sld hX hw hS c291 dL_law_1054 ?_
          refine lv_aload_n hx hb dL_law_1055 rfl (lv_at hl 1 rfl) ?_
          refine lv_iload hx hb dL_law_1056 (lv_at hl 5 rfl) ?_
          refine lv_iconst (v := 2) hx hb dL_law_1058 (by decide) ?_
          refine lv_iadd hx hb dL_law_1059 ?_
          obtain ⟨c292, h⟩ := og h
          refine c_sld hX hw hS c292 dL_law_1060 ?_
          refine lv_aload_n hx hb dL_law_1061 rfl (lv_at hl 1 rfl) ?_
          refine lv_iload hx hb dL_law_1062 (lv_at hl 5 rfl) ?_
          refine lv_iconst (v := 3) hx hb dL_law_1064 (by decide) ?_
          refine lv_iadd hx hb dL_law_1065 ?_
          obtain ⟨c293, h⟩ := og h
          refine c_sld hX hw hS c293 dL_law_1066 ?_
          obtain ⟨v295, m296, e294, h⟩ := oc2 h
          refine m_callI (n := 3) (As := [.int (xs (v0 + 1).toNatClampNeg), .int (xs (v0 + 2).toNatClampNeg), .int (xs (v0 + 3).toNatClampNeg)]) (rest := []) hX hn hw (c_X7_get g l hn w290 (xs (v0 + 1).toNatClampNeg) (xs (v0 + 2).toNatClampNeg) (xs (v0 + 3).toNatClampNeg) mm v295 m296 e294) gL_law_X7_get rfl (by decide +kernel) rfl hl.1 rfl (by simp [rv_cat, ct_i, ct_l]) ⟨by decide, by decide⟩ dL_law_1067 (fun H lc cn sn hw => ?_)
          refine lv_istore (lv' := [(6, .int v295), (5, .int v289), (0, .ref b), (1, rv o), (2, .ref (gmd g 32)), (3, rv q), (4, .int v0)]) hx hb dL_law_1070 hl (by decide) rfl (fun ls hl => ?_)
          refine lv_aload_n hx hb dL_law_1072 rfl (lv_at hl 4 rfl) ?_
          obtain ⟨v298, e297, h⟩ := ob h
          refine m_callI (n := 0) (As := []) (rest := []) hX hn hw (c_X7_thrown g l hn w290  m296 v298 e297) gL_law_X7_thrown rfl (by decide +kernel) rfl hl.1 rfl (by simp [rv_cat, ct_i, ct_l]) ⟨by decide, by decide⟩ dL_law_1073 (fun H lc cn sn hw => ?_)
          refine lv_iload hx hb dL_law_1076 (lv_at hl 1 rfl) ?_
          refine lv_icmp_eq (tgt := 1083) hx hb dL_law_1078 (by decide) (fun c299 => ?_) (fun c299 => ?_)
          · replace h := ot c299 h
            refine lv_iload hx hb dL_law_1083 (lv_at hl 1 rfl) ?_
            refine lv_if_ne (tgt := 1100) hx hb dL_law_1085 (by decide) (fun c300 => ?_) (fun c300 => ?_)
            · replace h := oe c300 h
              refine lv_goto (tgt := 1411) hx hb dL_law_1100 (by decide) ?_
              refine lv_iinc (v := (v0 + 7)) (lv' := [(4, .int (v0 + 7)), (6, .int v295), (5, .int v289), (0, .ref b), (1, rv o), (2, .ref (gmd g 32)), (3, rv q)]) hx hb dL_law_1411 hl (k := 6) rfl (by rfl) (by decide) (by simp [rv_cat, ct_i, ct_l] <;> decide) (fun ls hl => ?_)
              refine lv_goto (tgt := 23) hx hb dL_law_1414 (by decide) ?_
              exact ih _ _ _ _ _ _ _ _ h hw (lv_sub hl [3, 4, 5, 6, 0] rfl)
            · replace h := ot c300 h
              refine t_aload_n hx hb dL_law_1088 rfl (lv_at hl 5 rfl) ?_
              refine lv_iconst (v := 0) hx hb dL_law_1089 (by decide) ?_
              obtain ⟨c301, h⟩ := og h
              obtain ⟨c302, h⟩ := og h
              refine c_lld hX hw c301 c302 dL_law_1090 ?_
              refine lv_iload hx hb dL_law_1091 (lv_at hl 0 rfl) ?_
              refine lv_i2l (v := v295.toInt64) hx hb dL_law_1093 rfl ?_
              refine W.lcmp hx hb dL_law_1094 ?_
              refine lv_if_eq (tgt := 1100) hx hb dL_law_1095 (by decide) (fun c303 => ?_) (fun c303 => ?_)
              · replace h := ot c303 h
                refine lv_goto (tgt := 1411) hx hb dL_law_1100 (by decide) ?_
                refine lv_iinc (v := (v0 + 7)) (lv' := [(4, .int (v0 + 7)), (6, .int v295), (5, .int v289), (0, .ref b), (1, rv o), (2, .ref (gmd g 32)), (3, rv q)]) hx hb dL_law_1411 hl (k := 6) rfl (by rfl) (by decide) (by simp [rv_cat, ct_i, ct_l] <;> decide) (fun ls hl => ?_)
                refine lv_goto (tgt := 23) hx hb dL_law_1414 (by decide) ?_
                exact ih _ _ _ _ _ _ _ _ h hw (lv_sub hl [3, 4, 5, 6, 0] rfl)
              · replace h := oe c303 h
                refine lv_iconst (v := 0) hx hb dL_law_1098 (by decide) ?_
                exact hret _ _ _ _ _ _ _ _ dL_law_1099 hw (Option.some.inj h)
          · replace h := oe c299 h
            refine lv_iconst (v := 0) hx hb dL_law_1081 (by decide) ?_
            exact hret _ _ _ _ _ _ _ _ dL_law_1082 hw (Option.some.inj h)
        · show W p l e (rmO g 20 784 s.heap) s mi args below meth cd H lc cn sn Q (F0 mi 1103 ls [])
          replace h := oe (by omega) h
          replace h := oe (by omega) h
          replace h := oe (by omega) h
          replace h := oe (by omega) h
          replace h := oe (by omega) h
          replace h := oe (by omega) h
          replace h := oe (by omega) h
          replace h := oe (by omega) h
          replace h := oe (by omega) h
          replace h := oe (by omega) h
          replace h := oe (by omega) h
          replace h := oe (by omega) h
          replace h := oe (by omega) h
          replace h := oe (by omega) h
          replace h := oe (by omega) h
          replace h := ot hji h
          refine t_aload_n hx hb dL_law_1103 rfl (lv_at hl 1 rfl) ?_
          refine lv_aload_n hx hb dL_law_1104 rfl (lv_at hl 0 rfl) ?_
          refine lv_iload hx hb dL_law_1105 (lv_at hl 4 rfl) ?_
          refine lv_iconst (v := 1) hx hb dL_law_1107 (by decide) ?_
          refine lv_iadd hx hb dL_law_1108 ?_
          obtain ⟨c304, h⟩ := og h
          refine c_sld hX hw hS c304 dL_law_1109 ?_
          refine lv_aload_n hx hb dL_law_1110 rfl (lv_at hl 0 rfl) ?_
          refine lv_iload hx hb dL_law_1111 (lv_at hl 4 rfl) ?_
          refine lv_iconst (v := 2) hx hb dL_law_1113 (by decide) ?_
          refine lv_iadd hx hb dL_law_1114 ?_
          obtain ⟨c305, h⟩ := og h
          refine c_sld hX hw hS c305 dL_law_1115 ?_
          refine lv_aload_n hx hb dL_law_1116 rfl (lv_at hl 0 rfl) ?_
          refine lv_iload hx hb dL_law_1117 (lv_at hl 4 rfl) ?_
          refine lv_iconst (v := 3) hx hb dL_law_1119 (by decide) ?_
          refine lv_iadd hx hb dL_law_1120 ?_
          obtain ⟨c306, h⟩ := og h
          refine c_sld hX hw hS c306 dL_law_1121 ?_
          refine lv_aload_n hx hb dL_law_1122 rfl (lv_at hl 0 rfl) ?_
          refine lv_iload hx hb dL_law_1123 (lv_at hl 4 rfl) ?_
          refine lv_iconst (v := 4) hx hb dL_law_1125 (by decide) ?_
          refine lv_iadd hx hb dL_law_1126 ?_
          obtain ⟨c307, h⟩ := og h
          refine c_sld hX hw hS c307 dL_law_1127 ?_
          refine t_aload_n hx hb dL_law_1128 rfl (lv_at hl 3 rfl) ?_
          obtain ⟨v309, w310, e308, h⟩ := oc2 h
          refine g_callSWi (n := 6) (As := [rv o, .int (xs (v0 + 1).toNatClampNeg), .int (xs (v0 + 2).toNatClampNeg), .int (xs (v0 + 3).toNatClampNeg), .int (xs (v0 + 4).toNatClampNeg), rv q]) (rest := []) hX hw (c_L_count g l hG hC hst mm o (xs (v0 + 1).toNatClampNeg) (xs (v0 + 2).toNatClampNeg) (xs (v0 + 3).toNatClampNeg) (xs (v0 + 4).toNatClampNeg) q w v309 w310 e308) gL_law_L_count rfl (by decide +kernel) rfl hl.1 rfl (by simp [rv_cat, ct_i, ct_l]) ⟨by decide, by decide⟩ dL_law_1129 (fun H lc cn sn hw => ?_)
          refine lv_istore (lv' := [(5, .int v309), (0, .ref b), (1, rv o), (2, .ref (gmd g 32)), (3, rv q), (4, .int v0)]) hx hb dL_law_1132 hl (by decide) rfl (fun ls hl => ?_)
          refine lv_aload_n hx hb dL_law_1134 rfl (lv_at hl 3 rfl) ?_
          refine lv_aload_n hx hb dL_law_1135 rfl (lv_at hl 1 rfl) ?_
          refine lv_iload hx hb dL_law_1136 (lv_at hl 5 rfl) ?_
          refine lv_iconst (v := 1) hx hb dL_law_1138 (by decide) ?_
          refine lv_iadd hx hb dL_law_1139 ?_
          obtain ⟨c311, h⟩ := og h
          refine c_sld hX hw hS c311 dL_law_1140 ?_
          refine lv_aload_n hx hb dL_law_1141 rfl (lv_at hl 1 rfl) ?_
          refine lv_iload hx hb dL_law_1142 (lv_at hl 5 rfl) ?_
          refine lv_iconst (v := 2) hx hb dL_law_1144 (by decide) ?_
          refine lv_iadd hx hb dL_law_1145 ?_
          obtain ⟨c312, h⟩ := og h
          refine c_sld hX hw hS c312 dL_law_1146 ?_
          refine lv_aload_n hx hb dL_law_1147 rfl (lv_at hl 1 rfl) ?_
          refine lv_iload hx hb dL_law_1148 (lv_at hl 5 rfl) ?_
          refine lv_iconst (v := 3) hx hb dL_law_1150 (by decide) ?_
          refine lv_iadd hx hb dL_law_1151 ?_
          obtain ⟨c313, h⟩ := og h
          refine c_sld hX hw hS c313 dL_law_1152 ?_
          refine lv_aload_n hx hb dL_law_1153 rfl (lv_at hl 1 rfl) ?_
          refine lv_iload hx hb dL_law_1154 (lv_at hl 5 rfl) ?_
          refine lv_iconst (v := 4) hx hb dL_law_1156 (by decide) ?_
          refine lv_iadd hx hb dL_law_1157 ?_
          obtain ⟨c314, h⟩ := og h
          refine c_sld hX hw hS c314 dL_law_1158 ?_
          obtain ⟨v316, m317, e315, h⟩ := oc2 h
          refine m_callI (n := 4) (As := [.int (xs (v0 + 1).toNatClampNeg), .int (xs (v0 + 2).toNatClampNeg), .int (xs (v0 + 3).toNatClampNeg), .int (xs (v0 + 4).toNatClampNeg)]) (rest := []) hX hn hw (c_X7_count g l hn w310 (xs (v0 + 1).toNatClampNeg) (xs (v0 + 2).toNatClampNeg) (xs (v0 + 3).toNatClampNeg) (xs (v0 + 4).toNatClampNeg) mm v316 m317 e315) gL_law_X7_count rfl (by decide +kernel) rfl hl.1 rfl (by simp [rv_cat, ct_i, ct_l]) ⟨by decide, by decide⟩ dL_law_1159 (fun H lc cn sn hw => ?_)
          refine lv_istore (lv' := [(6, .int v316), (5, .int v309), (0, .ref b), (1, rv o), (2, .ref (gmd g 32)), (3, rv q), (4, .int v0)]) hx hb dL_law_1162 hl (by decide) rfl (fun ls hl => ?_)
          refine lv_aload_n hx hb dL_law_1164 rfl (lv_at hl 4 rfl) ?_
          obtain ⟨v319, e318, h⟩ := ob h
          refine m_callI (n := 0) (As := []) (rest := []) hX hn hw (c_X7_thrown g l hn w310  m317 v319 e318) gL_law_X7_thrown rfl (by decide +kernel) rfl hl.1 rfl (by simp [rv_cat, ct_i, ct_l]) ⟨by decide, by decide⟩ dL_law_1165 (fun H lc cn sn hw => ?_)
          refine lv_iload hx hb dL_law_1168 (lv_at hl 1 rfl) ?_
          refine lv_icmp_eq (tgt := 1175) hx hb dL_law_1170 (by decide) (fun c320 => ?_) (fun c320 => ?_)
          · replace h := ot c320 h
            refine lv_iload hx hb dL_law_1175 (lv_at hl 1 rfl) ?_
            refine lv_if_ne (tgt := 1192) hx hb dL_law_1177 (by decide) (fun c321 => ?_) (fun c321 => ?_)
            · replace h := oe c321 h
              refine lv_goto (tgt := 1411) hx hb dL_law_1192 (by decide) ?_
              refine lv_iinc (v := (v0 + 7)) (lv' := [(4, .int (v0 + 7)), (6, .int v316), (5, .int v309), (0, .ref b), (1, rv o), (2, .ref (gmd g 32)), (3, rv q)]) hx hb dL_law_1411 hl (k := 6) rfl (by rfl) (by decide) (by simp [rv_cat, ct_i, ct_l] <;> decide) (fun ls hl => ?_)
              refine lv_goto (tgt := 23) hx hb dL_law_1414 (by decide) ?_
              exact ih _ _ _ _ _ _ _ _ h hw (lv_sub hl [3, 4, 5, 6, 0] rfl)
            · replace h := ot c321 h
              refine t_aload_n hx hb dL_law_1180 rfl (lv_at hl 5 rfl) ?_
              refine lv_iconst (v := 0) hx hb dL_law_1181 (by decide) ?_
              obtain ⟨c322, h⟩ := og h
              obtain ⟨c323, h⟩ := og h
              refine c_lld hX hw c322 c323 dL_law_1182 ?_
              refine lv_iload hx hb dL_law_1183 (lv_at hl 0 rfl) ?_
              refine lv_i2l (v := v316.toInt64) hx hb dL_law_1185 rfl ?_
              refine W.lcmp hx hb dL_law_1186 ?_
              refine lv_if_eq (tgt := 1192) hx hb dL_law_1187 (by decide) (fun c324 => ?_) (fun c324 => ?_)
              · replace h := ot c324 h
                refine lv_goto (tgt := 1411) hx hb dL_law_1192 (by decide) ?_
                refine lv_iinc (v := (v0 + 7)) (lv' := [(4, .int (v0 + 7)), (6, .int v316), (5, .int v309), (0, .ref b), (1, rv o), (2, .ref (gmd g 32)), (3, rv q)]) hx hb dL_law_1411 hl (k := 6) rfl (by rfl) (by decide) (by simp [rv_cat, ct_i, ct_l] <;> decide) (fun ls hl => ?_)
                refine lv_goto (tgt := 23) hx hb dL_law_1414 (by decide) ?_
                exact ih _ _ _ _ _ _ _ _ h hw (lv_sub hl [3, 4, 5, 6, 0] rfl)
              · replace h := oe c324 h
                refine lv_iconst (v := 0) hx hb dL_law_1190 (by decide) ?_
                exact hret _ _ _ _ _ _ _ _ dL_law_1191 hw (Option.some.inj h)
          · replace h := oe c320 h
            refine lv_iconst (v := 0) hx hb dL_law_1173 (by decide) ?_
            exact hret _ _ _ _ _ _ _ _ dL_law_1174 hw (Option.some.inj h)
        · show W p l e (rmO g 20 784 s.heap) s mi args below meth cd H lc cn sn Q (F0 mi 1195 ls [])
          replace h := oe (by omega) h
          replace h := oe (by omega) h
          replace h := oe (by omega) h
          replace h := oe (by omega) h
          replace h := oe (by omega) h
          replace h := oe (by omega) h
          replace h := oe (by omega) h
          replace h := oe (by omega) h
          replace h := oe (by omega) h
          replace h := oe (by omega) h
          replace h := oe (by omega) h
          replace h := oe (by omega) h
          replace h := oe (by omega) h
          replace h := oe (by omega) h
          replace h := oe (by omega) h
          replace h := oe (by omega) h
          replace h := ot hji h
          refine t_aload_n hx hb dL_law_1195 rfl (lv_at hl 1 rfl) ?_
          refine lv_aload_n hx hb dL_law_1196 rfl (lv_at hl 0 rfl) ?_
          refine lv_iload hx hb dL_law_1197 (lv_at hl 4 rfl) ?_
          refine lv_iconst (v := 1) hx hb dL_law_1199 (by decide) ?_
          refine lv_iadd hx hb dL_law_1200 ?_
          obtain ⟨c325, h⟩ := og h
          refine c_sld hX hw hS c325 dL_law_1201 ?_
          refine lv_aload_n hx hb dL_law_1202 rfl (lv_at hl 0 rfl) ?_
          refine lv_iload hx hb dL_law_1203 (lv_at hl 4 rfl) ?_
          refine lv_iconst (v := 2) hx hb dL_law_1205 (by decide) ?_
          refine lv_iadd hx hb dL_law_1206 ?_
          obtain ⟨c326, h⟩ := og h
          refine c_sld hX hw hS c326 dL_law_1207 ?_
          refine lv_aload_n hx hb dL_law_1208 rfl (lv_at hl 0 rfl) ?_
          refine lv_iload hx hb dL_law_1209 (lv_at hl 4 rfl) ?_
          refine lv_iconst (v := 3) hx hb dL_law_1211 (by decide) ?_
          refine lv_iadd hx hb dL_law_1212 ?_
          obtain ⟨c327, h⟩ := og h
          refine c_sld hX hw hS c327 dL_law_1213 ?_
          refine lv_aload_n hx hb dL_law_1214 rfl (lv_at hl 0 rfl) ?_
          refine lv_iload hx hb dL_law_1215 (lv_at hl 4 rfl) ?_
          refine lv_iconst (v := 4) hx hb dL_law_1217 (by decide) ?_
          refine lv_iadd hx hb dL_law_1218 ?_
          obtain ⟨c328, h⟩ := og h
          refine c_sld hX hw hS c328 dL_law_1219 ?_
          refine t_aload_n hx hb dL_law_1220 rfl (lv_at hl 3 rfl) ?_
          obtain ⟨v330, w331, e329, h⟩ := oc2 h
          refine g_callSWi (n := 6) (As := [rv o, .int (xs (v0 + 1).toNatClampNeg), .int (xs (v0 + 2).toNatClampNeg), .int (xs (v0 + 3).toNatClampNeg), .int (xs (v0 + 4).toNatClampNeg), rv q]) (rest := []) hX hw (c_L_cursor g l hG hC hst mm o (xs (v0 + 1).toNatClampNeg) (xs (v0 + 2).toNatClampNeg) (xs (v0 + 3).toNatClampNeg) (xs (v0 + 4).toNatClampNeg) q w v330 w331 e329) gL_law_L_cursor rfl (by decide +kernel) rfl hl.1 rfl (by simp [rv_cat, ct_i, ct_l]) ⟨by decide, by decide⟩ dL_law_1221 (fun H lc cn sn hw => ?_)
          refine lv_istore (lv' := [(5, .int v330), (0, .ref b), (1, rv o), (2, .ref (gmd g 32)), (3, rv q), (4, .int v0)]) hx hb dL_law_1224 hl (by decide) rfl (fun ls hl => ?_)
          refine lv_aload_n hx hb dL_law_1226 rfl (lv_at hl 3 rfl) ?_
          refine lv_aload_n hx hb dL_law_1227 rfl (lv_at hl 1 rfl) ?_
          refine lv_iload hx hb dL_law_1228 (lv_at hl 5 rfl) ?_
          refine lv_iconst (v := 1) hx hb dL_law_1230 (by decide) ?_
          refine lv_iadd hx hb dL_law_1231 ?_
          obtain ⟨c332, h⟩ := og h
          refine c_sld hX hw hS c332 dL_law_1232 ?_
          refine lv_aload_n hx hb dL_law_1233 rfl (lv_at hl 1 rfl) ?_
          refine lv_iload hx hb dL_law_1234 (lv_at hl 5 rfl) ?_
          refine lv_iconst (v := 2) hx hb dL_law_1236 (by decide) ?_
          refine lv_iadd hx hb dL_law_1237 ?_
          obtain ⟨c333, h⟩ := og h
          refine c_sld hX hw hS c333 dL_law_1238 ?_
          refine lv_aload_n hx hb dL_law_1239 rfl (lv_at hl 1 rfl) ?_
          refine lv_iload hx hb dL_law_1240 (lv_at hl 5 rfl) ?_
          refine lv_iconst (v := 3) hx hb dL_law_1242 (by decide) ?_
          refine lv_iadd hx hb dL_law_1243 ?_
          obtain ⟨c334, h⟩ := og h
          refine c_sld hX hw hS c334 dL_law_1244 ?_
          refine lv_aload_n hx hb dL_law_1245 rfl (lv_at hl 1 rfl) ?_
          refine lv_iload hx hb dL_law_1246 (lv_at hl 5 rfl) ?_
          refine lv_iconst (v := 4) hx hb dL_law_1248 (by decide) ?_
          refine lv_iadd hx hb dL_law_1249 ?_
          obtain ⟨c335, h⟩ := og h
          refine c_sld hX hw hS c335 dL_law_1250 ?_
          obtain ⟨v337, m338, e336, h⟩ := oc2 h
          refine m_callI (n := 4) (As := [.int (xs (v0 + 1).toNatClampNeg), .int (xs (v0 + 2).toNatClampNeg), .int (xs (v0 + 3).toNatClampNeg), .int (xs (v0 + 4).toNatClampNeg)]) (rest := []) hX hn hw (c_X7_cursor g l hn w331 (xs (v0 + 1).toNatClampNeg) (xs (v0 + 2).toNatClampNeg) (xs (v0 + 3).toNatClampNeg) (xs (v0 + 4).toNatClampNeg) mm v337 m338 e336) gL_law_X7_cursor rfl (by decide +kernel) rfl hl.1 rfl (by simp [rv_cat, ct_i, ct_l]) ⟨by decide, by decide⟩ dL_law_1251 (fun H lc cn sn hw => ?_)
          refine lv_istore (lv' := [(6, .int v337), (5, .int v330), (0, .ref b), (1, rv o), (2, .ref (gmd g 32)), (3, rv q), (4, .int v0)]) hx hb dL_law_1254 hl (by decide) rfl (fun ls hl => ?_)
          refine lv_aload_n hx hb dL_law_1256 rfl (lv_at hl 4 rfl) ?_
          obtain ⟨v340, e339, h⟩ := ob h
          refine m_callI (n := 0) (As := []) (rest := []) hX hn hw (c_X7_thrown g l hn w331  m338 v340 e339) gL_law_X7_thrown rfl (by decide +kernel) rfl hl.1 rfl (by simp [rv_cat, ct_i, ct_l]) ⟨by decide, by decide⟩ dL_law_1257 (fun H lc cn sn hw => ?_)
          refine lv_iload hx hb dL_law_1260 (lv_at hl 1 rfl) ?_
          refine lv_icmp_eq (tgt := 1267) hx hb dL_law_1262 (by decide) (fun c341 => ?_) (fun c341 => ?_)
          · replace h := ot c341 h
            refine lv_iload hx hb dL_law_1267 (lv_at hl 1 rfl) ?_
            refine lv_if_ne (tgt := 1284) hx hb dL_law_1269 (by decide) (fun c342 => ?_) (fun c342 => ?_)
            · replace h := oe c342 h
              refine lv_goto (tgt := 1411) hx hb dL_law_1284 (by decide) ?_
              refine lv_iinc (v := (v0 + 7)) (lv' := [(4, .int (v0 + 7)), (6, .int v337), (5, .int v330), (0, .ref b), (1, rv o), (2, .ref (gmd g 32)), (3, rv q)]) hx hb dL_law_1411 hl (k := 6) rfl (by rfl) (by decide) (by simp [rv_cat, ct_i, ct_l] <;> decide) (fun ls hl => ?_)
              refine lv_goto (tgt := 23) hx hb dL_law_1414 (by decide) ?_
              exact ih _ _ _ _ _ _ _ _ h hw (lv_sub hl [3, 4, 5, 6, 0] rfl)
            · replace h := ot c342 h
              refine t_aload_n hx hb dL_law_1272 rfl (lv_at hl 5 rfl) ?_
              refine lv_iconst (v := 0) hx hb dL_law_1273 (by decide) ?_
              obtain ⟨c343, h⟩ := og h
              obtain ⟨c344, h⟩ := og h
              refine c_lld hX hw c343 c344 dL_law_1274 ?_
              refine lv_iload hx hb dL_law_1275 (lv_at hl 0 rfl) ?_
              refine lv_i2l (v := v337.toInt64) hx hb dL_law_1277 rfl ?_
              refine W.lcmp hx hb dL_law_1278 ?_
              refine lv_if_eq (tgt := 1284) hx hb dL_law_1279 (by decide) (fun c345 => ?_) (fun c345 => ?_)
              · replace h := ot c345 h
                refine lv_goto (tgt := 1411) hx hb dL_law_1284 (by decide) ?_
                refine lv_iinc (v := (v0 + 7)) (lv' := [(4, .int (v0 + 7)), (6, .int v337), (5, .int v330), (0, .ref b), (1, rv o), (2, .ref (gmd g 32)), (3, rv q)]) hx hb dL_law_1411 hl (k := 6) rfl (by rfl) (by decide) (by simp [rv_cat, ct_i, ct_l] <;> decide) (fun ls hl => ?_)
                refine lv_goto (tgt := 23) hx hb dL_law_1414 (by decide) ?_
                exact ih _ _ _ _ _ _ _ _ h hw (lv_sub hl [3, 4, 5, 6, 0] rfl)
              · replace h := oe c345 h
                refine lv_iconst (v := 0) hx hb dL_law_1282 (by decide) ?_
                exact hret _ _ _ _ _ _ _ _ dL_law_1283 hw (Option.some.inj h)
          · replace h := oe c341 h
            refine lv_iconst (v := 0) hx hb dL_law_1265 (by decide) ?_
            exact hret _ _ _ _ _ _ _ _ dL_law_1266 hw (Option.some.inj h)
        · show W p l e (rmO g 20 784 s.heap) s mi args below meth cd H lc cn sn Q (F0 mi 1287 ls [])
          replace h := oe (by omega) h
          replace h := oe (by omega) h
          replace h := oe (by omega) h
          replace h := oe (by omega) h
          replace h := oe (by omega) h
          replace h := oe (by omega) h
          replace h := oe (by omega) h
          replace h := oe (by omega) h
          replace h := oe (by omega) h
          replace h := oe (by omega) h
          replace h := oe (by omega) h
          replace h := oe (by omega) h
          replace h := oe (by omega) h
          replace h := oe (by omega) h
          replace h := oe (by omega) h
          replace h := oe (by omega) h
          replace h := oe (by omega) h
          replace h := ot hji h
          refine t_aload_n hx hb dL_law_1287 rfl (lv_at hl 1 rfl) ?_
          refine lv_aload_n hx hb dL_law_1288 rfl (lv_at hl 0 rfl) ?_
          refine lv_iload hx hb dL_law_1289 (lv_at hl 4 rfl) ?_
          refine lv_iconst (v := 1) hx hb dL_law_1291 (by decide) ?_
          refine lv_iadd hx hb dL_law_1292 ?_
          obtain ⟨c346, h⟩ := og h
          refine c_sld hX hw hS c346 dL_law_1293 ?_
          refine t_aload_n hx hb dL_law_1294 rfl (lv_at hl 3 rfl) ?_
          obtain ⟨v348, w349, e347, h⟩ := oc2 h
          refine g_callSWi (n := 3) (As := [rv o, .int (xs (v0 + 1).toNatClampNeg), rv q]) (rest := []) hX hw (c_L_step g l hG hC hst mm o (xs (v0 + 1).toNatClampNeg) q w v348 w349 e347) gL_law_L_step rfl (by decide +kernel) rfl hl.1 rfl (by simp [rv_cat, ct_i, ct_l]) ⟨by decide, by decide⟩ dL_law_1295 (fun H lc cn sn hw => ?_)
          refine lv_istore (lv' := [(5, .int v348), (0, .ref b), (1, rv o), (2, .ref (gmd g 32)), (3, rv q), (4, .int v0)]) hx hb dL_law_1298 hl (by decide) rfl (fun ls hl => ?_)
          refine lv_aload_n hx hb dL_law_1300 rfl (lv_at hl 3 rfl) ?_
          refine lv_aload_n hx hb dL_law_1301 rfl (lv_at hl 1 rfl) ?_
          refine lv_iload hx hb dL_law_1302 (lv_at hl 5 rfl) ?_
          refine lv_iconst (v := 1) hx hb dL_law_1304 (by decide) ?_
          refine lv_iadd hx hb dL_law_1305 ?_
          obtain ⟨c350, h⟩ := og h
          refine c_sld hX hw hS c350 dL_law_1306 ?_
          obtain ⟨v352, m353, e351, h⟩ := oc2 h
          refine m_callI (n := 1) (As := [.int (xs (v0 + 1).toNatClampNeg)]) (rest := []) hX hn hw (c_X7_step g l hn w349 (xs (v0 + 1).toNatClampNeg) mm v352 m353 e351) gL_law_X7_step rfl (by decide +kernel) rfl hl.1 rfl (by simp [rv_cat, ct_i, ct_l]) ⟨by decide, by decide⟩ dL_law_1307 (fun H lc cn sn hw => ?_)
          refine lv_istore (lv' := [(6, .int v352), (5, .int v348), (0, .ref b), (1, rv o), (2, .ref (gmd g 32)), (3, rv q), (4, .int v0)]) hx hb dL_law_1310 hl (by decide) rfl (fun ls hl => ?_)
          refine lv_aload_n hx hb dL_law_1312 rfl (lv_at hl 4 rfl) ?_
          obtain ⟨v355, e354, h⟩ := ob h
          refine m_callI (n := 0) (As := []) (rest := []) hX hn hw (c_X7_thrown g l hn w349  m353 v355 e354) gL_law_X7_thrown rfl (by decide +kernel) rfl hl.1 rfl (by simp [rv_cat, ct_i, ct_l]) ⟨by decide, by decide⟩ dL_law_1313 (fun H lc cn sn hw => ?_)
          refine lv_iload hx hb dL_law_1316 (lv_at hl 1 rfl) ?_
          refine lv_icmp_eq (tgt := 1323) hx hb dL_law_1318 (by decide) (fun c356 => ?_) (fun c356 => ?_)
          · replace h := ot c356 h
            refine lv_iload hx hb dL_law_1323 (lv_at hl 1 rfl) ?_
            refine lv_if_ne (tgt := 1340) hx hb dL_law_1325 (by decide) (fun c357 => ?_) (fun c357 => ?_)
            · replace h := oe c357 h
              refine lv_goto (tgt := 1411) hx hb dL_law_1340 (by decide) ?_
              refine lv_iinc (v := (v0 + 7)) (lv' := [(4, .int (v0 + 7)), (6, .int v352), (5, .int v348), (0, .ref b), (1, rv o), (2, .ref (gmd g 32)), (3, rv q)]) hx hb dL_law_1411 hl (k := 6) rfl (by rfl) (by decide) (by simp [rv_cat, ct_i, ct_l] <;> decide) (fun ls hl => ?_)
              refine lv_goto (tgt := 23) hx hb dL_law_1414 (by decide) ?_
              exact ih _ _ _ _ _ _ _ _ h hw (lv_sub hl [3, 4, 5, 6, 0] rfl)
            · replace h := ot c357 h
              refine t_aload_n hx hb dL_law_1328 rfl (lv_at hl 5 rfl) ?_
              refine lv_iconst (v := 0) hx hb dL_law_1329 (by decide) ?_
              obtain ⟨c358, h⟩ := og h
              obtain ⟨c359, h⟩ := og h
              refine c_lld hX hw c358 c359 dL_law_1330 ?_
              refine lv_iload hx hb dL_law_1331 (lv_at hl 0 rfl) ?_
              refine lv_i2l (v := v352.toInt64) hx hb dL_law_1333 rfl ?_
              refine W.lcmp hx hb dL_law_1334 ?_
              refine lv_if_eq (tgt := 1340) hx hb dL_law_1335 (by decide) (fun c360 => ?_) (fun c360 => ?_)
              · replace h := ot c360 h
                refine lv_goto (tgt := 1411) hx hb dL_law_1340 (by decide) ?_
                refine lv_iinc (v := (v0 + 7)) (lv' := [(4, .int (v0 + 7)), (6, .int v352), (5, .int v348), (0, .ref b), (1, rv o), (2, .ref (gmd g 32)), (3, rv q)]) hx hb dL_law_1411 hl (k := 6) rfl (by rfl) (by decide) (by simp [rv_cat, ct_i, ct_l] <;> decide) (fun ls hl => ?_)
                refine lv_goto (tgt := 23) hx hb dL_law_1414 (by decide) ?_
                exact ih _ _ _ _ _ _ _ _ h hw (lv_sub hl [3, 4, 5, 6, 0] rfl)
              · replace h := oe c360 h
                refine lv_iconst (v := 0) hx hb dL_law_1338 (by decide) ?_
                exact hret _ _ _ _ _ _ _ _ dL_law_1339 hw (Option.some.inj h)
          · replace h := oe c356 h
            refine lv_iconst (v := 0) hx hb dL_law_1321 (by decide) ?_
            exact hret _ _ _ _ _ _ _ _ dL_law_1322 hw (Option.some.inj h)
        · show W p l e (rmO g 20 784 s.heap) s mi args below meth cd H lc cn sn Q (F0 mi 1343 ls [])
          replace h := oe (by omega) h
          replace h := oe (by omega) h
          replace h := oe (by omega) h
          replace h := oe (by omega) h
          replace h := oe (by omega) h
          replace h := oe (by omega) h
          replace h := oe (by omega) h
          replace h := oe (by omega) h
          replace h := oe (by omega) h
          replace h := oe (by omega) h
          replace h := oe (by omega) h
          replace h := oe (by omega) h
          replace h := oe (by omega) h
          replace h := oe (by omega) h
          replace h := oe (by omega) h
          replace h := oe (by omega) h
          replace h := oe (by omega) h
          replace h := oe (by omega) h
          replace h := ot hji h
          refine t_aload_n hx hb dL_law_1343 rfl (lv_at hl 1 rfl) ?_
          refine lv_aload_n hx hb dL_law_1344 rfl (lv_at hl 0 rfl) ?_
          refine lv_iload hx hb dL_law_1345 (lv_at hl 4 rfl) ?_
          refine lv_iconst (v := 1) hx hb dL_law_1347 (by decide) ?_
          refine lv_iadd hx hb dL_law_1348 ?_
          obtain ⟨c361, h⟩ := og h
          refine c_sld hX hw hS c361 dL_law_1349 ?_
          refine lv_aload_n hx hb dL_law_1350 rfl (lv_at hl 0 rfl) ?_
          refine lv_iload hx hb dL_law_1351 (lv_at hl 4 rfl) ?_
          refine lv_iconst (v := 2) hx hb dL_law_1353 (by decide) ?_
          refine lv_iadd hx hb dL_law_1354 ?_
          obtain ⟨c362, h⟩ := og h
          refine c_sld hX hw hS c362 dL_law_1355 ?_
          refine t_aload_n hx hb dL_law_1356 rfl (lv_at hl 3 rfl) ?_
          obtain ⟨v364, w365, e363, h⟩ := oc2 h
          refine g_callSWi (n := 4) (As := [rv o, .int (xs (v0 + 1).toNatClampNeg), .int (xs (v0 + 2).toNatClampNeg), rv q]) (rest := []) hX hw (c_L_update g l hG hC hst mm o (xs (v0 + 1).toNatClampNeg) (xs (v0 + 2).toNatClampNeg) q w v364 w365 e363) gL_law_L_update rfl (by decide +kernel) rfl hl.1 rfl (by simp [rv_cat, ct_i, ct_l]) ⟨by decide, by decide⟩ dL_law_1357 (fun H lc cn sn hw => ?_)
          refine lv_istore (lv' := [(5, .int v364), (0, .ref b), (1, rv o), (2, .ref (gmd g 32)), (3, rv q), (4, .int v0)]) hx hb dL_law_1360 hl (by decide) rfl (fun ls hl => ?_)
          refine lv_aload_n hx hb dL_law_1362 rfl (lv_at hl 3 rfl) ?_
          refine lv_aload_n hx hb dL_law_1363 rfl (lv_at hl 1 rfl) ?_
          refine lv_iload hx hb dL_law_1364 (lv_at hl 5 rfl) ?_
          refine lv_iconst (v := 1) hx hb dL_law_1366 (by decide) ?_
          refine lv_iadd hx hb dL_law_1367 ?_
          obtain ⟨c366, h⟩ := og h
          refine c_sld hX hw hS c366 dL_law_1368 ?_
          refine lv_aload_n hx hb dL_law_1369 rfl (lv_at hl 1 rfl) ?_
          refine lv_iload hx hb dL_law_1370 (lv_at hl 5 rfl) ?_
          refine lv_iconst (v := 2) hx hb dL_law_1372 (by decide) ?_
          refine lv_iadd hx hb dL_law_1373 ?_
          obtain ⟨c367, h⟩ := og h
          refine c_sld hX hw hS c367 dL_law_1374 ?_
          obtain ⟨v369, m370, e368, h⟩ := oc2 h
          refine m_callI (n := 2) (As := [.int (xs (v0 + 1).toNatClampNeg), .int (xs (v0 + 2).toNatClampNeg)]) (rest := []) hX hn hw (c_X7_update g l hn w365 (xs (v0 + 1).toNatClampNeg) (xs (v0 + 2).toNatClampNeg) mm v369 m370 e368) gL_law_X7_update rfl (by decide +kernel) rfl hl.1 rfl (by simp [rv_cat, ct_i, ct_l]) ⟨by decide, by decide⟩ dL_law_1375 (fun H lc cn sn hw => ?_)
          refine lv_istore (lv' := [(6, .int v369), (5, .int v364), (0, .ref b), (1, rv o), (2, .ref (gmd g 32)), (3, rv q), (4, .int v0)]) hx hb dL_law_1378 hl (by decide) rfl (fun ls hl => ?_)
          refine lv_aload_n hx hb dL_law_1380 rfl (lv_at hl 4 rfl) ?_
          obtain ⟨v372, e371, h⟩ := ob h
          refine m_callI (n := 0) (As := []) (rest := []) hX hn hw (c_X7_thrown g l hn w365  m370 v372 e371) gL_law_X7_thrown rfl (by decide +kernel) rfl hl.1 rfl (by simp [rv_cat, ct_i, ct_l]) ⟨by decide, by decide⟩ dL_law_1381 (fun H lc cn sn hw => ?_)
          refine lv_iload hx hb dL_law_1384 (lv_at hl 1 rfl) ?_
          refine lv_icmp_eq (tgt := 1391) hx hb dL_law_1386 (by decide) (fun c373 => ?_) (fun c373 => ?_)
          · replace h := ot c373 h
            refine lv_iload hx hb dL_law_1391 (lv_at hl 1 rfl) ?_
            refine lv_if_ne (tgt := 1408) hx hb dL_law_1393 (by decide) (fun c374 => ?_) (fun c374 => ?_)
            · replace h := oe c374 h
              refine lv_goto (tgt := 1411) hx hb dL_law_1408 (by decide) ?_
              refine lv_iinc (v := (v0 + 7)) (lv' := [(4, .int (v0 + 7)), (6, .int v369), (5, .int v364), (0, .ref b), (1, rv o), (2, .ref (gmd g 32)), (3, rv q)]) hx hb dL_law_1411 hl (k := 6) rfl (by rfl) (by decide) (by simp [rv_cat, ct_i, ct_l] <;> decide) (fun ls hl => ?_)
              refine lv_goto (tgt := 23) hx hb dL_law_1414 (by decide) ?_
              exact ih _ _ _ _ _ _ _ _ h hw (lv_sub hl [3, 4, 5, 6, 0] rfl)
            · replace h := ot c374 h
              refine t_aload_n hx hb dL_law_1396 rfl (lv_at hl 5 rfl) ?_
              refine lv_iconst (v := 0) hx hb dL_law_1397 (by decide) ?_
              obtain ⟨c375, h⟩ := og h
              obtain ⟨c376, h⟩ := og h
              refine c_lld hX hw c375 c376 dL_law_1398 ?_
              refine lv_iload hx hb dL_law_1399 (lv_at hl 0 rfl) ?_
              refine lv_i2l (v := v369.toInt64) hx hb dL_law_1401 rfl ?_
              refine W.lcmp hx hb dL_law_1402 ?_
              refine lv_if_eq (tgt := 1408) hx hb dL_law_1403 (by decide) (fun c377 => ?_) (fun c377 => ?_)
              · replace h := ot c377 h
                refine lv_goto (tgt := 1411) hx hb dL_law_1408 (by decide) ?_
                refine lv_iinc (v := (v0 + 7)) (lv' := [(4, .int (v0 + 7)), (6, .int v369), (5, .int v364), (0, .ref b), (1, rv o), (2, .ref (gmd g 32)), (3, rv q)]) hx hb dL_law_1411 hl (k := 6) rfl (by rfl) (by decide) (by simp [rv_cat, ct_i, ct_l] <;> decide) (fun ls hl => ?_)
                refine lv_goto (tgt := 23) hx hb dL_law_1414 (by decide) ?_
                exact ih _ _ _ _ _ _ _ _ h hw (lv_sub hl [3, 4, 5, 6, 0] rfl)
              · replace h := oe c377 h
                refine lv_iconst (v := 0) hx hb dL_law_1406 (by decide) ?_
                exact hret _ _ _ _ _ _ _ _ dL_law_1407 hw (Option.some.inj h)
          · replace h := oe c373 h
            refine lv_iconst (v := 0) hx hb dL_law_1389 (by decide) ?_
            exact hret _ _ _ _ _ _ _ _ dL_law_1390 hw (Option.some.inj h)
      · replace h := oe (by omega) h
        replace h := oe (by omega) h
        replace h := oe (by omega) h
        replace h := oe (by omega) h
        replace h := oe (by omega) h
        replace h := oe (by omega) h
        replace h := oe (by omega) h
        replace h := oe (by omega) h
        replace h := oe (by omega) h
        replace h := oe (by omega) h
        replace h := oe (by omega) h
        replace h := oe (by omega) h
        replace h := oe (by omega) h
        replace h := oe (by omega) h
        replace h := oe (by omega) h
        replace h := oe (by omega) h
        replace h := oe (by omega) h
        replace h := oe (by omega) h
        replace h := oe (by omega) h
        refine lv_iinc (v := (v0 + 7)) (lv' := [(4, .int (v0 + 7)), (0, .ref b), (1, rv o), (2, .ref (gmd g 32)), (3, rv q)]) hx hb dL_law_1411 hl (k := 4) rfl (by rfl) (by decide) (by simp [rv_cat, ct_i, ct_l] <;> decide) (fun ls hl => ?_)
        refine lv_goto (tgt := 23) hx hb dL_law_1414 (by decide) ?_
        exact ih _ _ _ _ _ _ _ _ h hw (lv_sub hl [1, 2, 3, 4, 0] rfl)
