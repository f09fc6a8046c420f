section
theorem zz_try : decode prog_2_method_1_code 0 = .ok (.aload_n 0, 1) := by decide +kernel
end
