/-! a look at the words -/
theorem zz_1 : (lw_tbl.all fun w => match w with | .laysStatic .. => true | .methodLinkNest .. => true | .stringRef .. => true | w => goodWord w) = true := by decide +kernel
theorem zz_2 : (lw_tbl.all fun w => match w with | .superclass .. => goodWord w | .native .. => goodWord w | .soleField .. => goodWord w | _ => true) = true := by decide +kernel
theorem zz_3 : dck_at da_X0_ofKind 7 rfl = dck_at da_X0_ofKind 7 rfl := rfl
theorem zz_4 : decode cX0_ofKind 9 = .ok (.if_icmp .ge 22, 3) := dck_at da_X0_ofKind 7 rfl
