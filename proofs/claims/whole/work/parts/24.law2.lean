/-! THE LAW'S LOOP AND ITS BEGINNING -/
noncomputable def fL_law_13 (xs : List Int32) : Nat → Nat → Nat → Nat → Int32 → qM → Option qR
  | 0 => fun _ _ _ _ _ => none
  | n + 1 => fun x1 x2 x3 x4 μ =>
    if ((Int32.ofNat xs.length) - (4 : Int32)) < x4 then
      if (1 : Int32) = 1 then some (1, 0, μ) else none
    else
      qbnd (lld xs x4) fun v1 =>
      if (v1 &&& (63 : Int32)) = (0 : Int32) then
        qbnd (lld xs (x4 + (1 : Int32))) fun v2 =>
        qbnd (fX7_sign x1 v2 μ) fun r3 =>
        qbnd (lld xs (x4 + (1 : Int32))) fun v4 =>
        qbnd (fX8_sign x2 v4 r3.2.2) fun r5 =>
        if r3.1 = r5.1 then
          fL_law_13 xs n x1 x2 x3 (x4 + (4 : Int32)) r5.2.2
        else
          if (0 : Int32) = 1 then some (1, 0, r5.2.2) else none
      else
      if (v1 &&& (63 : Int32)) = (1 : Int32) then
        qbnd (lld xs (x4 + (1 : Int32))) fun v6 =>
        qbnd (fX7_end x1 v6 μ) fun r7 =>
        qbnd (lld xs (x4 + (1 : Int32))) fun v8 =>
        qbnd (fX8_end x2 v8 r7.2.2) fun r9 =>
        if r7.1 = r9.1 then
          fL_law_13 xs n x1 x2 x3 (x4 + (4 : Int32)) r9.2.2
        else
          if (0 : Int32) = 1 then some (1, 0, r9.2.2) else none
      else
      if (v1 &&& (63 : Int32)) = (2 : Int32) then
        qbnd (fX7_rule x1 μ) fun r10 =>
        qbnd (fX8_rule x2 r10.2.2) fun r11 =>
        if r10.1 = r11.1 then
          fL_law_13 xs n x1 x2 x3 (x4 + (4 : Int32)) r11.2.2
        else
          if (0 : Int32) = 1 then some (1, 0, r11.2.2) else none
      else
      if (v1 &&& (63 : Int32)) = (3 : Int32) then
        qbnd (lld xs (x4 + (1 : Int32))) fun v12 =>
        qbnd (lld xs (x4 + (2 : Int32))) fun v13 =>
        qbnd (fX7_modes x1 v12 v13 μ) fun r14 =>
        qbnd (lld xs (x4 + (1 : Int32))) fun v15 =>
        qbnd (lld xs (x4 + (2 : Int32))) fun v16 =>
        qbnd (fX8_modes x2 v15 v16 r14.2.2) fun r17 =>
        if r14.1 = r17.1 then
          fL_law_13 xs n x1 x2 x3 (x4 + (4 : Int32)) r17.2.2
        else
          if (0 : Int32) = 1 then some (1, 0, r17.2.2) else none
      else
      if (v1 &&& (63 : Int32)) = (4 : Int32) then
        qbnd (fX7_named x1 μ) fun r18 =>
        qbnd (fX8_named x2 r18.2.2) fun r19 =>
        if r18.1 = r19.1 then
          fL_law_13 xs n x1 x2 x3 (x4 + (4 : Int32)) r19.2.2
        else
          if (0 : Int32) = 1 then some (1, 0, r19.2.2) else none
      else
      if (v1 &&& (63 : Int32)) = (5 : Int32) then
        qbnd (lld xs (x4 + (1 : Int32))) fun v20 =>
        qbnd (lld xs (x4 + (2 : Int32))) fun v21 =>
        qbnd (lwf0 x1 v20 v21 x3 μ) fun r22 =>
        qbnd (lld xs (x4 + (1 : Int32))) fun v23 =>
        qbnd (lld xs (x4 + (2 : Int32))) fun v24 =>
        qbnd (fX8_owner x2 v23 v24 r22.2.2) fun r25 =>
        qbnd (fX8_thrown x2 r25.2.2) fun r26 =>
        if r26.1 = r22.1 then
          if r22.1 = 0 then
            qbnd (oLdL r26.2.2 x3 (0 : Int32)) fun v27 =>
            if (lg_cmp v27 (r25.1).toInt64) = 0 then
              fL_law_13 xs n x1 x2 x3 (x4 + (4 : Int32)) r26.2.2
            else
              if (0 : Int32) = 1 then some (1, 0, r26.2.2) else none
          else
            fL_law_13 xs n x1 x2 x3 (x4 + (4 : Int32)) r26.2.2
        else
          if (0 : Int32) = 1 then some (1, 0, r26.2.2) else none
      else
      if (v1 &&& (63 : Int32)) = (6 : Int32) then
        qbnd (lld xs (x4 + (1 : Int32))) fun v28 =>
        qbnd (lld xs (x4 + (2 : Int32))) fun v29 =>
        qbnd (lwf1 x1 v28 v29 x3 μ) fun r30 =>
        qbnd (lld xs (x4 + (1 : Int32))) fun v31 =>
        qbnd (lld xs (x4 + (2 : Int32))) fun v32 =>
        qbnd (fX8_held_ x2 v31 v32 r30.2.2) fun r33 =>
        qbnd (fX8_thrown x2 r33.2.2) fun r34 =>
        if r34.1 = r30.1 then
          if r30.1 = 0 then
            qbnd (oLdL r34.2.2 x3 (0 : Int32)) fun v35 =>
            if (lg_cmp v35 (r33.1).toInt64) = 0 then
              fL_law_13 xs n x1 x2 x3 (x4 + (4 : Int32)) r34.2.2
            else
              if (0 : Int32) = 1 then some (1, 0, r34.2.2) else none
          else
            fL_law_13 xs n x1 x2 x3 (x4 + (4 : Int32)) r34.2.2
        else
          if (0 : Int32) = 1 then some (1, 0, r34.2.2) else none
      else
      if (v1 &&& (63 : Int32)) = (7 : Int32) then
        qbnd (lld xs (x4 + (1 : Int32))) fun v36 =>
        qbnd (fX7_begins x1 v36 μ) fun r37 =>
        qbnd (lld xs (x4 + (1 : Int32))) fun v38 =>
        qbnd (fX8_begins x2 v38 r37.2.2) fun r39 =>
        if r37.1 = r39.1 then
          fL_law_13 xs n x1 x2 x3 (x4 + (4 : Int32)) r39.2.2
        else
          if (0 : Int32) = 1 then some (1, 0, r39.2.2) else none
      else
      if (v1 &&& (63 : Int32)) = (8 : Int32) then
        qbnd (lld xs (x4 + (1 : Int32))) fun v40 =>
        qbnd (lld xs (x4 + (2 : Int32))) fun v41 =>
        qbnd (fX7_works x1 v40 v41 μ) fun r42 =>
        qbnd (lld xs (x4 + (1 : Int32))) fun v43 =>
        qbnd (lld xs (x4 + (2 : Int32))) fun v44 =>
        qbnd (fX8_works x2 v43 v44 r42.2.2) fun r45 =>
        if r42.1 = r45.1 then
          fL_law_13 xs n x1 x2 x3 (x4 + (4 : Int32)) r45.2.2
        else
          if (0 : Int32) = 1 then some (1, 0, r45.2.2) else none
      else
      if (v1 &&& (63 : Int32)) = (9 : Int32) then
        qbnd (lld xs (x4 + (1 : Int32))) fun v46 =>
        qbnd (lld xs (x4 + (2 : Int32))) fun v47 =>
        qbnd (lld xs (x4 + (3 : Int32))) fun v48 =>
        qbnd (fX7_locks x1 v46 v47 v48 μ) fun r49 =>
        qbnd (lld xs (x4 + (1 : Int32))) fun v50 =>
        qbnd (lld xs (x4 + (2 : Int32))) fun v51 =>
        qbnd (lld xs (x4 + (3 : Int32))) fun v52 =>
        qbnd (fX8_locks x2 v50 v51 v52 r49.2.2) fun r53 =>
        if r49.1 = r53.1 then
          fL_law_13 xs n x1 x2 x3 (x4 + (4 : Int32)) r53.2.2
        else
          if (0 : Int32) = 1 then some (1, 0, r53.2.2) else none
      else
      if (v1 &&& (63 : Int32)) = (10 : Int32) then
        qbnd (lld xs (x4 + (1 : Int32))) fun v54 =>
        qbnd (lld xs (x4 + (2 : Int32))) fun v55 =>
        qbnd (fX7_unlocks x1 v54 v55 μ) fun r56 =>
        qbnd (lld xs (x4 + (1 : Int32))) fun v57 =>
        qbnd (lld xs (x4 + (2 : Int32))) fun v58 =>
        qbnd (fX8_unlocks x2 v57 v58 r56.2.2) fun r59 =>
        if r56.1 = r59.1 then
          fL_law_13 xs n x1 x2 x3 (x4 + (4 : Int32)) r59.2.2
        else
          if (0 : Int32) = 1 then some (1, 0, r59.2.2) else none
      else
      if (v1 &&& (63 : Int32)) = (11 : Int32) then
        qbnd (lld xs (x4 + (1 : Int32))) fun v60 =>
        qbnd (fX7_ends x1 v60 μ) fun r61 =>
        qbnd (lld xs (x4 + (1 : Int32))) fun v62 =>
        qbnd (fX8_ends x2 v62 r61.2.2) fun r63 =>
        if r61.1 = r63.1 then
          fL_law_13 xs n x1 x2 x3 (x4 + (4 : Int32)) r63.2.2
        else
          if (0 : Int32) = 1 then some (1, 0, r63.2.2) else none
      else
      if (v1 &&& (63 : Int32)) = (12 : Int32) then
        qbnd (lld xs (x4 + (1 : Int32))) fun v64 =>
        qbnd (lld xs (x4 + (2 : Int32))) fun v65 =>
        qbnd (fX7_gathers x1 v64 v65 μ) fun r66 =>
        qbnd (lld xs (x4 + (1 : Int32))) fun v67 =>
        qbnd (lld xs (x4 + (2 : Int32))) fun v68 =>
        qbnd (fX8_gathers x2 v67 v68 r66.2.2) fun r69 =>
        if r66.1 = r69.1 then
          fL_law_13 xs n x1 x2 x3 (x4 + (4 : Int32)) r69.2.2
        else
          if (0 : Int32) = 1 then some (1, 0, r69.2.2) else none
      else
      if (v1 &&& (63 : Int32)) = (13 : Int32) then
        qbnd (lld xs (x4 + (1 : Int32))) fun v70 =>
        qbnd (fX7_bulk x1 v70 μ) fun r71 =>
        qbnd (lld xs (x4 + (1 : Int32))) fun v72 =>
        qbnd (fX8_bulk x2 v72 r71.2.2) fun r73 =>
        if r71.1 = r73.1 then
          fL_law_13 xs n x1 x2 x3 (x4 + (4 : Int32)) r73.2.2
        else
          if (0 : Int32) = 1 then some (1, 0, r73.2.2) else none
      else
      if (v1 &&& (63 : Int32)) = (14 : Int32) then
        qbnd (fX7_fells x1 μ) fun r74 =>
        qbnd (fX8_fells x2 r74.2.2) fun r75 =>
        if r74.1 = r75.1 then
          fL_law_13 xs n x1 x2 x3 (x4 + (4 : Int32)) r75.2.2
        else
          if (0 : Int32) = 1 then some (1, 0, r75.2.2) else none
      else
      if (v1 &&& (63 : Int32)) = (15 : Int32) then
        qbnd (fX7_day x1 μ) fun r76 =>
        qbnd (fX8_day x2 r76.2.2) fun r77 =>
        if r76.1 = r77.1 then
          fL_law_13 xs n x1 x2 x3 (x4 + (4 : Int32)) r77.2.2
        else
          if (0 : Int32) = 1 then some (1, 0, r77.2.2) else none
      else
      if (v1 &&& (63 : Int32)) = (16 : Int32) then
        qbnd (fX7_undo x1 μ) fun r78 =>
        qbnd (fX8_undo x2 r78.2.2) fun r79 =>
        if r78.1 = r79.1 then
          fL_law_13 xs n x1 x2 x3 (x4 + (4 : Int32)) r79.2.2
        else
          if (0 : Int32) = 1 then some (1, 0, r79.2.2) else none
      else
      if (v1 &&& (63 : Int32)) = (17 : Int32) then
        qbnd (lld xs (x4 + (1 : Int32))) fun v80 =>
        qbnd (fX7_holders x1 v80 μ) fun r81 =>
        qbnd (lld xs (x4 + (1 : Int32))) fun v82 =>
        qbnd (fX8_holders x2 v82 r81.2.2) fun r83 =>
        if r81.1 = r83.1 then
          fL_law_13 xs n x1 x2 x3 (x4 + (4 : Int32)) r83.2.2
        else
          if (0 : Int32) = 1 then some (1, 0, r83.2.2) else none
      else
      if (v1 &&& (63 : Int32)) = (18 : Int32) then
        qbnd (lld xs (x4 + (1 : Int32))) fun v84 =>
        qbnd (fX7_queue x1 v84 μ) fun r85 =>
        qbnd (lld xs (x4 + (1 : Int32))) fun v86 =>
        qbnd (fX8_queue x2 v86 r85.2.2) fun r87 =>
        if r85.1 = r87.1 then
          fL_law_13 xs n x1 x2 x3 (x4 + (4 : Int32)) r87.2.2
        else
          if (0 : Int32) = 1 then some (1, 0, r87.2.2) else none
      else
      if (v1 &&& (63 : Int32)) = (19 : Int32) then
        qbnd (lld xs (x4 + (1 : Int32))) fun v88 =>
        qbnd (fX7_waits x1 v88 μ) fun r89 =>
        qbnd (lld xs (x4 + (1 : Int32))) fun v90 =>
        qbnd (fX8_waits x2 v90 r89.2.2) fun r91 =>
        if r89.1 = r91.1 then
          fL_law_13 xs n x1 x2 x3 (x4 + (4 : Int32)) r91.2.2
        else
          if (0 : Int32) = 1 then some (1, 0, r91.2.2) else none
      else
      if (v1 &&& (63 : Int32)) = (20 : Int32) then
        qbnd (lld xs (x4 + (1 : Int32))) fun v92 =>
        qbnd (lld xs (x4 + (2 : Int32))) fun v93 =>
        qbnd (fX7_covers x1 v92 v93 μ) fun r94 =>
        qbnd (lld xs (x4 + (1 : Int32))) fun v95 =>
        qbnd (lld xs (x4 + (2 : Int32))) fun v96 =>
        qbnd (fX8_covers x2 v95 v96 r94.2.2) fun r97 =>
        if r94.1 = r97.1 then
          fL_law_13 xs n x1 x2 x3 (x4 + (4 : Int32)) r97.2.2
        else
          if (0 : Int32) = 1 then some (1, 0, r97.2.2) else none
      else
      if (v1 &&& (63 : Int32)) = (21 : Int32) then
        qbnd (lld xs (x4 + (1 : Int32))) fun v98 =>
        qbnd (lld xs (x4 + (2 : Int32))) fun v99 =>
        qbnd (lld xs (x4 + (3 : Int32))) fun v100 =>
        qbnd (fX7_may x1 v98 v99 v100 μ) fun r101 =>
        qbnd (lld xs (x4 + (1 : Int32))) fun v102 =>
        qbnd (lld xs (x4 + (2 : Int32))) fun v103 =>
        qbnd (lld xs (x4 + (3 : Int32))) fun v104 =>
        qbnd (fX8_may x2 v102 v103 v104 r101.2.2) fun r105 =>
        if r101.1 = r105.1 then
          fL_law_13 xs n x1 x2 x3 (x4 + (4 : Int32)) r105.2.2
        else
          if (0 : Int32) = 1 then some (1, 0, r105.2.2) else none
      else
      if (v1 &&& (63 : Int32)) = (22 : Int32) then
        qbnd (lld xs (x4 + (1 : Int32))) fun v106 =>
        qbnd (lld xs (x4 + (2 : Int32))) fun v107 =>
        qbnd (lld xs (x4 + (3 : Int32))) fun v108 =>
        qbnd (fX7_free x1 v106 v107 v108 μ) fun r109 =>
        qbnd (lld xs (x4 + (1 : Int32))) fun v110 =>
        qbnd (lld xs (x4 + (2 : Int32))) fun v111 =>
        qbnd (lld xs (x4 + (3 : Int32))) fun v112 =>
        qbnd (fX8_free x2 v110 v111 v112 r109.2.2) fun r113 =>
        if r109.1 = r113.1 then
          fL_law_13 xs n x1 x2 x3 (x4 + (4 : Int32)) r113.2.2
        else
          if (0 : Int32) = 1 then some (1, 0, r113.2.2) else none
      else
      if (v1 &&& (63 : Int32)) = (23 : Int32) then
        qbnd (lld xs (x4 + (1 : Int32))) fun v114 =>
        qbnd (fX7_behind x1 v114 μ) fun r115 =>
        qbnd (lld xs (x4 + (1 : Int32))) fun v116 =>
        qbnd (fX8_behind x2 v116 r115.2.2) fun r117 =>
        if r115.1 = r117.1 then
          fL_law_13 xs n x1 x2 x3 (x4 + (4 : Int32)) r117.2.2
        else
          if (0 : Int32) = 1 then some (1, 0, r117.2.2) else none
      else
      if (v1 &&& (63 : Int32)) = (24 : Int32) then
        qbnd (lld xs (x4 + (1 : Int32))) fun v118 =>
        qbnd (fX7_stops x1 v118 μ) fun r119 =>
        qbnd (lld xs (x4 + (1 : Int32))) fun v120 =>
        qbnd (fX8_stops x2 v120 r119.2.2) fun r121 =>
        if r119.1 = r121.1 then
          fL_law_13 xs n x1 x2 x3 (x4 + (4 : Int32)) r121.2.2
        else
          if (0 : Int32) = 1 then some (1, 0, r121.2.2) else none
      else
      if (v1 &&& (63 : Int32)) = (25 : Int32) then
        qbnd (fX7_rings x1 μ) fun r122 =>
        qbnd (fX8_rings x2 r122.2.2) fun r123 =>
        if r122.1 = r123.1 then
          fL_law_13 xs n x1 x2 x3 (x4 + (4 : Int32)) r123.2.2
        else
          if (0 : Int32) = 1 then some (1, 0, r123.2.2) else none
      else
      if (v1 &&& (63 : Int32)) = (26 : Int32) then
        qbnd (lld xs (x4 + (1 : Int32))) fun v124 =>
        qbnd (fX7_ring x1 v124 μ) fun r125 =>
        qbnd (lld xs (x4 + (1 : Int32))) fun v126 =>
        qbnd (fX8_ring x2 v126 r125.2.2) fun r127 =>
        if r125.1 = r127.1 then
          fL_law_13 xs n x1 x2 x3 (x4 + (4 : Int32)) r127.2.2
        else
          if (0 : Int32) = 1 then some (1, 0, r127.2.2) else none
      else
      if (v1 &&& (63 : Int32)) = (27 : Int32) then
        qbnd (fX7_victim x1 μ) fun r128 =>
        qbnd (fX8_victim x2 r128.2.2) fun r129 =>
        if r128.1 = r129.1 then
          fL_law_13 xs n x1 x2 x3 (x4 + (4 : Int32)) r129.2.2
        else
          if (0 : Int32) = 1 then some (1, 0, r129.2.2) else none
      else
      if (v1 &&& (63 : Int32)) = (28 : Int32) then
        qbnd (lld xs (x4 + (1 : Int32))) fun v130 =>
        qbnd (fX7_frees x1 v130 μ) fun r131 =>
        qbnd (lld xs (x4 + (1 : Int32))) fun v132 =>
        qbnd (fX8_frees x2 v132 r131.2.2) fun r133 =>
        if r131.1 = r133.1 then
          fL_law_13 xs n x1 x2 x3 (x4 + (4 : Int32)) r133.2.2
        else
          if (0 : Int32) = 1 then some (1, 0, r133.2.2) else none
      else
      if (v1 &&& (63 : Int32)) = (29 : Int32) then
        qbnd (fX7_drains x1 μ) fun r134 =>
        qbnd (fX8_drains x2 r134.2.2) fun r135 =>
        if r134.1 = r135.1 then
          fL_law_13 xs n x1 x2 x3 (x4 + (4 : Int32)) r135.2.2
        else
          if (0 : Int32) = 1 then some (1, 0, r135.2.2) else none
      else
      if (v1 &&& (63 : Int32)) = (30 : Int32) then
        qbnd (lld xs (x4 + (1 : Int32))) fun v136 =>
        qbnd (lld xs (x4 + (2 : Int32))) fun v137 =>
        qbnd (fX7_saves x1 v136 v137 μ) fun r138 =>
        qbnd (lld xs (x4 + (1 : Int32))) fun v139 =>
        qbnd (lld xs (x4 + (2 : Int32))) fun v140 =>
        qbnd (fX8_saves x2 v139 v140 r138.2.2) fun r141 =>
        if r138.1 = r141.1 then
          fL_law_13 xs n x1 x2 x3 (x4 + (4 : Int32)) r141.2.2
        else
          if (0 : Int32) = 1 then some (1, 0, r141.2.2) else none
      else
      if (v1 &&& (63 : Int32)) = (31 : Int32) then
        qbnd (lld xs (x4 + (1 : Int32))) fun v142 =>
        qbnd (lld xs (x4 + (2 : Int32))) fun v143 =>
        qbnd (fX7_holds x1 v142 v143 μ) fun r144 =>
        qbnd (lld xs (x4 + (1 : Int32))) fun v145 =>
        qbnd (lld xs (x4 + (2 : Int32))) fun v146 =>
        qbnd (fX8_holds x2 v145 v146 r144.2.2) fun r147 =>
        if r144.1 = r147.1 then
          fL_law_13 xs n x1 x2 x3 (x4 + (4 : Int32)) r147.2.2
        else
          if (0 : Int32) = 1 then some (1, 0, r147.2.2) else none
      else
      if (v1 &&& (63 : Int32)) = (32 : Int32) then
        qbnd (lld xs (x4 + (1 : Int32))) fun v148 =>
        qbnd (lld xs (x4 + (2 : Int32))) fun v149 =>
        qbnd (fX7_common x1 v148 v149 μ) fun r150 =>
        qbnd (lld xs (x4 + (1 : Int32))) fun v151 =>
        qbnd (lld xs (x4 + (2 : Int32))) fun v152 =>
        qbnd (fX8_common x2 v151 v152 r150.2.2) fun r153 =>
        if r150.1 = r153.1 then
          fL_law_13 xs n x1 x2 x3 (x4 + (4 : Int32)) r153.2.2
        else
          if (0 : Int32) = 1 then some (1, 0, r153.2.2) else none
      else
      if (v1 &&& (63 : Int32)) = (33 : Int32) then
        qbnd (fX7_queues x1 μ) fun r154 =>
        qbnd (fX8_queues x2 r154.2.2) fun r155 =>
        if r154.1 = r155.1 then
          fL_law_13 xs n x1 x2 x3 (x4 + (4 : Int32)) r155.2.2
        else
          if (0 : Int32) = 1 then some (1, 0, r155.2.2) else none
      else
      if (v1 &&& (63 : Int32)) = (34 : Int32) then
        qbnd (fX7_sum x1 μ) fun r156 =>
        qbnd (fX8_sum x2 r156.2.2) fun r157 =>
        if r156.1 = r157.1 then
          fL_law_13 xs n x1 x2 x3 (x4 + (4 : Int32)) r157.2.2
        else
          if (0 : Int32) = 1 then some (1, 0, r157.2.2) else none
      else
      if (v1 &&& (63 : Int32)) = (35 : Int32) then
        qbnd (fX7_law x1 μ) fun r158 =>
        qbnd (fX8_law x2 r158.2.2) fun r159 =>
        if r158.1 = r159.1 then
          fL_law_13 xs n x1 x2 x3 (x4 + (4 : Int32)) r159.2.2
        else
          if (0 : Int32) = 1 then some (1, 0, r159.2.2) else none
      else
      if (v1 &&& (63 : Int32)) = (36 : Int32) then
        qbnd (lld xs (x4 + (1 : Int32))) fun v160 =>
        qbnd (lld xs (x4 + (2 : Int32))) fun v161 =>
        qbnd (fX7_years x1 v160 v161 μ) fun r162 =>
        qbnd (lld xs (x4 + (1 : Int32))) fun v163 =>
        qbnd (lld xs (x4 + (2 : Int32))) fun v164 =>
        qbnd (fX8_years x2 v163 v164 r162.2.2) fun r165 =>
        if r162.1 = r165.1 then
          fL_law_13 xs n x1 x2 x3 (x4 + (4 : Int32)) r165.2.2
        else
          if (0 : Int32) = 1 then some (1, 0, r165.2.2) else none
      else
      if (v1 &&& (63 : Int32)) = (37 : Int32) then
        qbnd (lld xs (x4 + (1 : Int32))) fun v166 =>
        qbnd (fX7_keep x1 v166 μ) fun r167 =>
        qbnd (lld xs (x4 + (1 : Int32))) fun v168 =>
        qbnd (fX8_keep x2 v168 r167.2.2) fun r169 =>
        if r167.1 = r169.1 then
          fL_law_13 xs n x1 x2 x3 (x4 + (4 : Int32)) r169.2.2
        else
          if (0 : Int32) = 1 then some (1, 0, r169.2.2) else none
      else
      if (v1 &&& (63 : Int32)) = (38 : Int32) then
        qbnd (lld xs (x4 + (1 : Int32))) fun v170 =>
        qbnd (fX7_again x1 v170 μ) fun r171 =>
        qbnd (lld xs (x4 + (1 : Int32))) fun v172 =>
        qbnd (fX8_again x2 v172 r171.2.2) fun r173 =>
        if r171.1 = r173.1 then
          fL_law_13 xs n x1 x2 x3 (x4 + (4 : Int32)) r173.2.2
        else
          if (0 : Int32) = 1 then some (1, 0, r173.2.2) else none
      else
      if (v1 &&& (63 : Int32)) = (39 : Int32) then
        qbnd (lld xs (x4 + (1 : Int32))) fun v174 =>
        qbnd (fX7_count x1 v174 μ) fun r175 =>
        qbnd (lld xs (x4 + (1 : Int32))) fun v176 =>
        qbnd (fX8_count x2 v176 r175.2.2) fun r177 =>
        if r175.1 = r177.1 then
          fL_law_13 xs n x1 x2 x3 (x4 + (4 : Int32)) r177.2.2
        else
          if (0 : Int32) = 1 then some (1, 0, r177.2.2) else none
      else
      if (v1 &&& (63 : Int32)) = (40 : Int32) then
        qbnd (lld xs (x4 + (1 : Int32))) fun v178 =>
        qbnd (lwf2 x1 v178 x3 μ) fun r179 =>
        qbnd (lld xs (x4 + (1 : Int32))) fun v180 =>
        qbnd (fX8_row x2 v180 r179.2.2) fun r181 =>
        qbnd (fX8_thrown x2 r181.2.2) fun r182 =>
        if r182.1 = r179.1 then
          if r179.1 = 0 then
            qbnd (oLdL r182.2.2 x3 (0 : Int32)) fun v183 =>
            if (lg_cmp v183 r181.2.1) = 0 then
              fL_law_13 xs n x1 x2 x3 (x4 + (4 : Int32)) r182.2.2
            else
              if (0 : Int32) = 1 then some (1, 0, r182.2.2) else none
          else
            fL_law_13 xs n x1 x2 x3 (x4 + (4 : Int32)) r182.2.2
        else
          if (0 : Int32) = 1 then some (1, 0, r182.2.2) else none
      else
        fL_law_13 xs n x1 x2 x3 (x4 + (4 : Int32)) μ
theorem qif {n k : Nat} {A B : Option qR} {r : qR} (h : (if n = k then A else B) = some r) : (n = k ∧ A = some r) ∨ B = some r := by
  by_cases e : n = k
  · rw [if_pos e] at h; exact Or.inl ⟨e, h⟩
  · rw [if_neg e] at h; exact Or.inr h
/-- the law's callees, by number -/
noncomputable def cfL_law : qF := fun n l μ => if n = 88 then aX7_sign l μ else if n = 89 then aX7_end l μ else if n = 90 then aX7_rule l μ else if n = 91 then aX7_modes l μ else if n = 92 then aX7_named l μ else if n = 95 then aX7_begins l μ else if n = 96 then aX7_works l μ else if n = 97 then aX7_locks l μ else if n = 98 then aX7_unlocks l μ else if n = 99 then aX7_ends l μ else if n = 100 then aX7_gathers l μ else if n = 101 then aX7_bulk l μ else if n = 102 then aX7_fells l μ else if n = 103 then aX7_day l μ else if n = 104 then aX7_undo l μ else if n = 105 then aX7_holders l μ else if n = 106 then aX7_queue l μ else if n = 107 then aX7_waits l μ else if n = 108 then aX7_covers l μ else if n = 109 then aX7_may l μ else if n = 110 then aX7_free l μ else if n = 111 then aX7_behind l μ else if n = 112 then aX7_stops l μ else if n = 113 then aX7_rings l μ else if n = 114 then aX7_ring l μ else if n = 115 then aX7_victim l μ else if n = 116 then aX7_frees l μ else if n = 117 then aX7_drains l μ else if n = 118 then aX7_saves l μ else if n = 119 then aX7_holds l μ else if n = 120 then aX7_common l μ else if n = 121 then aX7_queues l μ else if n = 122 then aX7_sum l μ else if n = 123 then aX7_law l μ else if n = 124 then aX7_years l μ else if n = 125 then aX7_keep l μ else if n = 126 then aX7_again l μ else if n = 127 then aX7_count l μ else if n = 139 then aX8_thrown l μ else if n = 151 then aX8_modes l μ else if n = 152 then aX8_sign l μ else if n = 153 then aX8_end l μ else if n = 161 then aX8_named l μ else if n = 167 then aX8_rule l μ else if n = 219 then aX8_undo l μ else if n = 220 then aX8_owner l μ else if n = 221 then aX8_held_ l μ else if n = 222 then aX8_begins l μ else if n = 223 then aX8_works l μ else if n = 224 then aX8_locks l μ else if n = 225 then aX8_unlocks l μ else if n = 226 then aX8_ends l μ else if n = 227 then aX8_gathers l μ else if n = 228 then aX8_bulk l μ else if n = 229 then aX8_fells l μ else if n = 232 then aX8_day l μ else if n = 233 then aX8_holders l μ else if n = 234 then aX8_queue l μ else if n = 235 then aX8_waits l μ else if n = 237 then aX8_covers l μ else if n = 239 then aX8_may l μ else if n = 240 then aX8_free l μ else if n = 241 then aX8_behind l μ else if n = 242 then aX8_stops l μ else if n = 243 then aX8_rings l μ else if n = 245 then aX8_ring l μ else if n = 246 then aX8_victim l μ else if n = 248 then aX8_frees l μ else if n = 249 then aX8_drains l μ else if n = 250 then aX8_saves l μ else if n = 251 then aX8_holds l μ else if n = 252 then aX8_common l μ else if n = 253 then aX8_queues l μ else if n = 255 then aX8_sum l μ else if n = 256 then aX8_law l μ else if n = 260 then aX8_years l μ else if n = 261 then aX8_keep l μ else if n = 262 then aX8_again l μ else if n = 263 then aX8_count l μ else if n = 264 then aX8_row l μ else none
theorem hcL_law {base : Nat} {D : va_G} {ca : Nat → ClassId} {cv : Nat → Value} (hcv : ∀ j, (cv j).category = 1) : ∀ M as μ r, cfL_law M as μ = some r → qGood false base D ca cv 1007 M as μ r := by
  intro M as μ r h
  unfold cfL_law at h
  rcases qif h with ⟨e, h⟩ | h
  · subst e; exact (gaX7_sign hcv h).mono (by omega)
  rcases qif h with ⟨e, h⟩ | h
  · subst e; exact (gaX7_end hcv h).mono (by omega)
  rcases qif h with ⟨e, h⟩ | h
  · subst e; exact (gaX7_rule hcv h).mono (by omega)
  rcases qif h with ⟨e, h⟩ | h
  · subst e; exact (gaX7_modes hcv h).mono (by omega)
  rcases qif h with ⟨e, h⟩ | h
  · subst e; exact (gaX7_named hcv h).mono (by omega)
  rcases qif h with ⟨e, h⟩ | h
  · subst e; exact (gaX7_begins hcv h).mono (by omega)
  rcases qif h with ⟨e, h⟩ | h
  · subst e; exact (gaX7_works hcv h).mono (by omega)
  rcases qif h with ⟨e, h⟩ | h
  · subst e; exact (gaX7_locks hcv h).mono (by omega)
  rcases qif h with ⟨e, h⟩ | h
  · subst e; exact (gaX7_unlocks hcv h).mono (by omega)
  rcases qif h with ⟨e, h⟩ | h
  · subst e; exact (gaX7_ends hcv h).mono (by omega)
  rcases qif h with ⟨e, h⟩ | h
  · subst e; exact (gaX7_gathers hcv h).mono (by omega)
  rcases qif h with ⟨e, h⟩ | h
  · subst e; exact (gaX7_bulk hcv h).mono (by omega)
  rcases qif h with ⟨e, h⟩ | h
  · subst e; exact (gaX7_fells hcv h).mono (by omega)
  rcases qif h with ⟨e, h⟩ | h
  · subst e; exact (gaX7_day hcv h).mono (by omega)
  rcases qif h with ⟨e, h⟩ | h
  · subst e; exact (gaX7_undo hcv h).mono (by omega)
  rcases qif h with ⟨e, h⟩ | h
  · subst e; exact (gaX7_holders hcv h).mono (by omega)
  rcases qif h with ⟨e, h⟩ | h
  · subst e; exact (gaX7_queue hcv h).mono (by omega)
  rcases qif h with ⟨e, h⟩ | h
  · subst e; exact (gaX7_waits hcv h).mono (by omega)
  rcases qif h with ⟨e, h⟩ | h
  · subst e; exact (gaX7_covers hcv h).mono (by omega)
  rcases qif h with ⟨e, h⟩ | h
  · subst e; exact (gaX7_may hcv h).mono (by omega)
  rcases qif h with ⟨e, h⟩ | h
  · subst e; exact (gaX7_free hcv h).mono (by omega)
  rcases qif h with ⟨e, h⟩ | h
  · subst e; exact (gaX7_behind hcv h).mono (by omega)
  rcases qif h with ⟨e, h⟩ | h
  · subst e; exact (gaX7_stops hcv h).mono (by omega)
  rcases qif h with ⟨e, h⟩ | h
  · subst e; exact (gaX7_rings hcv h).mono (by omega)
  rcases qif h with ⟨e, h⟩ | h
  · subst e; exact (gaX7_ring hcv h).mono (by omega)
  rcases qif h with ⟨e, h⟩ | h
  · subst e; exact (gaX7_victim hcv h).mono (by omega)
  rcases qif h with ⟨e, h⟩ | h
  · subst e; exact (gaX7_frees hcv h).mono (by omega)
  rcases qif h with ⟨e, h⟩ | h
  · subst e; exact (gaX7_drains hcv h).mono (by omega)
  rcases qif h with ⟨e, h⟩ | h
  · subst e; exact (gaX7_saves hcv h).mono (by omega)
  rcases qif h with ⟨e, h⟩ | h
  · subst e; exact (gaX7_holds hcv h).mono (by omega)
  rcases qif h with ⟨e, h⟩ | h
  · subst e; exact (gaX7_common hcv h).mono (by omega)
  rcases qif h with ⟨e, h⟩ | h
  · subst e; exact (gaX7_queues hcv h).mono (by omega)
  rcases qif h with ⟨e, h⟩ | h
  · subst e; exact (gaX7_sum hcv h).mono (by omega)
  rcases qif h with ⟨e, h⟩ | h
  · subst e; exact (gaX7_law hcv h).mono (by omega)
  rcases qif h with ⟨e, h⟩ | h
  · subst e; exact (gaX7_years hcv h).mono (by omega)
  rcases qif h with ⟨e, h⟩ | h
  · subst e; exact (gaX7_keep hcv h).mono (by omega)
  rcases qif h with ⟨e, h⟩ | h
  · subst e; exact (gaX7_again hcv h).mono (by omega)
  rcases qif h with ⟨e, h⟩ | h
  · subst e; exact (gaX7_count hcv h).mono (by omega)
  rcases qif h with ⟨e, h⟩ | h
  · subst e; exact (gaX8_thrown hcv h).mono (by omega)
  rcases qif h with ⟨e, h⟩ | h
  · subst e; exact (gaX8_modes hcv h).mono (by omega)
  rcases qif h with ⟨e, h⟩ | h
  · subst e; exact (gaX8_sign hcv h).mono (by omega)
  rcases qif h with ⟨e, h⟩ | h
  · subst e; exact (gaX8_end hcv h).mono (by omega)
  rcases qif h with ⟨e, h⟩ | h
  · subst e; exact (gaX8_named hcv h).mono (by omega)
  rcases qif h with ⟨e, h⟩ | h
  · subst e; exact (gaX8_rule hcv h).mono (by omega)
  rcases qif h with ⟨e, h⟩ | h
  · subst e; exact (gaX8_undo hcv h).mono (by omega)
  rcases qif h with ⟨e, h⟩ | h
  · subst e; exact (gaX8_owner hcv h).mono (by omega)
  rcases qif h with ⟨e, h⟩ | h
  · subst e; exact (gaX8_held_ hcv h).mono (by omega)
  rcases qif h with ⟨e, h⟩ | h
  · subst e; exact (gaX8_begins hcv h).mono (by omega)
  rcases qif h with ⟨e, h⟩ | h
  · subst e; exact (gaX8_works hcv h).mono (by omega)
  rcases qif h with ⟨e, h⟩ | h
  · subst e; exact (gaX8_locks hcv h).mono (by omega)
  rcases qif h with ⟨e, h⟩ | h
  · subst e; exact (gaX8_unlocks hcv h).mono (by omega)
  rcases qif h with ⟨e, h⟩ | h
  · subst e; exact (gaX8_ends hcv h).mono (by omega)
  rcases qif h with ⟨e, h⟩ | h
  · subst e; exact (gaX8_gathers hcv h).mono (by omega)
  rcases qif h with ⟨e, h⟩ | h
  · subst e; exact (gaX8_bulk hcv h).mono (by omega)
  rcases qif h with ⟨e, h⟩ | h
  · subst e; exact (gaX8_fells hcv h).mono (by omega)
  rcases qif h with ⟨e, h⟩ | h
  · subst e; exact (gaX8_day hcv h).mono (by omega)
  rcases qif h with ⟨e, h⟩ | h
  · subst e; exact (gaX8_holders hcv h).mono (by omega)
  rcases qif h with ⟨e, h⟩ | h
  · subst e; exact (gaX8_queue hcv h).mono (by omega)
  rcases qif h with ⟨e, h⟩ | h
  · subst e; exact (gaX8_waits hcv h).mono (by omega)
  rcases qif h with ⟨e, h⟩ | h
  · subst e; exact (gaX8_covers hcv h).mono (by omega)
  rcases qif h with ⟨e, h⟩ | h
  · subst e; exact (gaX8_may hcv h).mono (by omega)
  rcases qif h with ⟨e, h⟩ | h
  · subst e; exact (gaX8_free hcv h).mono (by omega)
  rcases qif h with ⟨e, h⟩ | h
  · subst e; exact (gaX8_behind hcv h).mono (by omega)
  rcases qif h with ⟨e, h⟩ | h
  · subst e; exact (gaX8_stops hcv h).mono (by omega)
  rcases qif h with ⟨e, h⟩ | h
  · subst e; exact (gaX8_rings hcv h).mono (by omega)
  rcases qif h with ⟨e, h⟩ | h
  · subst e; exact (gaX8_ring hcv h).mono (by omega)
  rcases qif h with ⟨e, h⟩ | h
  · subst e; exact (gaX8_victim hcv h).mono (by omega)
  rcases qif h with ⟨e, h⟩ | h
  · subst e; exact (gaX8_frees hcv h).mono (by omega)
  rcases qif h with ⟨e, h⟩ | h
  · subst e; exact (gaX8_drains hcv h).mono (by omega)
  rcases qif h with ⟨e, h⟩ | h
  · subst e; exact (gaX8_saves hcv h).mono (by omega)
  rcases qif h with ⟨e, h⟩ | h
  · subst e; exact (gaX8_holds hcv h).mono (by omega)
  rcases qif h with ⟨e, h⟩ | h
  · subst e; exact (gaX8_common hcv h).mono (by omega)
  rcases qif h with ⟨e, h⟩ | h
  · subst e; exact (gaX8_queues hcv h).mono (by omega)
  rcases qif h with ⟨e, h⟩ | h
  · subst e; exact (gaX8_sum hcv h).mono (by omega)
  rcases qif h with ⟨e, h⟩ | h
  · subst e; exact (gaX8_law hcv h).mono (by omega)
  rcases qif h with ⟨e, h⟩ | h
  · subst e; exact (gaX8_years hcv h).mono (by omega)
  rcases qif h with ⟨e, h⟩ | h
  · subst e; exact (gaX8_keep hcv h).mono (by omega)
  rcases qif h with ⟨e, h⟩ | h
  · subst e; exact (gaX8_again hcv h).mono (by omega)
  rcases qif h with ⟨e, h⟩ | h
  · subst e; exact (gaX8_count hcv h).mono (by omega)
  rcases qif h with ⟨e, h⟩ | h
  · subst e; exact (gaX8_row hcv h).mono (by omega)
  cases h
noncomputable def wfL_law : qF := fun w l μ => if w = 0 then (match l with
  | [.ref a0, .int a1, .int a2, .ref a3] => lwf0 a0 a1 a2 a3 μ
  | _ => none) else if w = 1 then (match l with
  | [.ref a0, .int a1, .int a2, .ref a3] => lwf1 a0 a1 a2 a3 μ
  | _ => none) else if w = 2 then (match l with
  | [.ref a0, .int a1, .ref a2] => lwf2 a0 a1 a2 μ
  | _ => none) else none
theorem hwL_law {base : Nat} {D : va_G} {ca : Nat → ClassId} {cv : Nat → Value} (hcv : ∀ j, (cv j).category = 1) : ∀ w as μ r, wfL_law w as μ = some r → lGood base D ca cv 1007 w as μ r := by
  intro w as μ r h
  unfold wfL_law at h
  split at h
  · rename_i e; subst e
    split at h
    · exact (gl0 hcv h).mono (by omega)
    · cases h
  split at h
  · rename_i e; subst e
    split at h
    · exact (gl1 hcv h).mono (by omega)
    · cases h
  split at h
  · rename_i e; subst e
    split at h
    · exact (gl2 hcv h).mono (by omega)
    · cases h
  cases h
def jL_law (f : Nat → Nat → Nat → Int32 → qM → Option qR) (L S : List Value) (μ : qM) : Option qR := match L, S with
  | [.retAddr 60, .ref x1, .ref x2, .ref x3, .int x4, _, _, _], [] => f x1 x2 x3 x4 μ
  | _, _ => none
theorem qGo_le {al : Bool} {p : Program} {l : Launch} {e : Env} {R : Room} {s : State} {m : MethodId} {args : Array Value} {below : List Frame} {meth : Method} {c : Code} {Q : State → Prop} {base : Nat} {D : va_G} {ca : Nat → ClassId} {cv : Nat → Value} {cd : qC} {nL rc rs mc ms pc : Nat} {L L' S : List Value} {μ : qM}
    (h : qGo al p l e R s m args below meth c Q base D ca cv cd nL rc rs mc ms pc L S μ) (hn : L.length = L'.length) (hq : qle L L') : qGo al p l e R s m args below meth c Q base D ca cv cd nL rc rs mc ms pc L' S μ :=
  ⟨h.1, fun H locs cells slots ls hP hS hz hl q1 q2 => h.2 H locs cells slots ls hP hS hz (hl.le hn hq) q1 q2⟩
theorem qGo_al {p : Program} {l : Launch} {e : Env} {R : Room} {s : State} {m : MethodId} {args : Array Value} {below : List Frame} {meth : Method} {c : Code} {Q : State → Prop} {base : Nat} {D : va_G} {ca : Nat → ClassId} {cv : Nat → Value} {cd : qC} {nL rc rs mc ms pc : Nat} {L S : List Value} {μ : qM}
    (h : qGo false p l e R s m args below meth c Q base D ca cv cd nL rc rs mc ms pc L S μ) : qGo true p l e R s m args below meth c Q base D ca cv cd nL rc rs mc ms pc L S μ :=
  ⟨h.1, fun H locs cells slots ls hP hS _ hl q1 q2 => h.2 H locs cells slots ls hP hS (fun z => by cases z) hl q1 q2⟩
section LAW2
variable {p : Program} {l : Launch} {e : Env} {s : State} {m : MethodId} {below : List Frame} {meth : Method} {c : Code} {b : Nat} {xs : List Int32}
variable {al : Bool} {D : va_G} {ca : Nat → ClassId} {cv : Nat → Value} {mc ms d : Nat} {r : qR}
theorem jeL_law {f : Nat → Nat → Nat → Int32 → qM → Option qR} (hf : ∀ (x1 x2 x3 : Nat) (x4 : Int32) (μ : qM), f x1 x2 x3 x4 μ = some r → lGo false p l e s m below meth c b D ca cv r mc ms 13 [.retAddr 60, .ref x1, .ref x2, .ref x3, .int x4, .null, .null, .null] [] μ) {L S : List Value} {μ : qM} (h : jL_law f L S μ = some r) : lGo false p l e s m below meth c b D ca cv r mc ms 13 L S μ := by
  unfold jL_law at h
  split at h
  · exact qGo_le (hf _ _ _ _ _ h) rfl ⟨Or.inr rfl, Or.inr rfl, Or.inr rfl, Or.inr rfl, Or.inr rfl, Or.inl rfl, Or.inl rfl, Or.inl rfl, trivial⟩
  · cases h
set_option maxRecDepth 100000 in
theorem lbL_law (C : qCtx p room_1 s m #[Value.ref b] meth c s.heap.size D ca cv 9 false code 8 mc ms d) (hd : 1007 + 1 ≤ d) (hst : l.stackTraces = false) (hX : va_X b xs.length (fun j => xs.getD j 0) s s.heap) (hbl : b < s.heap.size) (h60 : cv 60 = .ref b) (hrt : meth.sig.returnType = ret) (hlk : meth.locks = false) (hmm : mc ≤ 601024 ∧ ms ≤ 7293033) :
    ∀ (n x1 x2 x3 : Nat) (x4 : Int32) (μ : qM), fL_law_13 xs n x1 x2 x3 x4 μ = some r → lGo false p l e s m below meth c b D ca cv r mc ms 13 [.retAddr 60, .ref x1, .ref x2, .ref x3, .int x4, .null, .null, .null] [] μ := by
  have hcv : ∀ j, (cv j).category = 1 := C.2.2.2.2.2.2.2.2.1
  intro n
  induction n with
  | zero => intro x1 x2 x3 x4 μ h; cases (show (none : Option qR) = some r from h)
  | succ n ih =>
    intro x1 x2 x3 x4 μ h
    exact lblk_go (al := false) (xs := xs) (wf := wfL_law) (cf := cfL_law) (st := fun n => qin [13] n) (K := fun pc L S μ => if pc = 13 then jL_law (fL_law_13 xs n) L S μ else none) C hst hX hbl h60 hrt hlk hmm hd (hcL_law hcv) (fun w as μ r1 h1 => ⟨rfl, hwL_law hcv w as μ r1 h1⟩) (fun pc L S μ h => by
      split at h
      · rename_i e; subst e; exact jeL_law ih h
      · cases h) 400 h
end LAW2
