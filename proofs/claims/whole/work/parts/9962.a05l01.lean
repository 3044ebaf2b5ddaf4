theorem dL_law_3250 : decode cL_law 3250 = .ok (.iconst 0, 1) := by decide +kernel
theorem dL_law_3251 : decode cL_law 3251 = .ok (.ireturn, 1) := by decide +kernel
theorem dL_law_3252 : decode cL_law 3252 = .ok (.iload 5, 2) := by decide +kernel
theorem dL_law_3254 : decode cL_law 3254 = .ok (.ifCond .ne 15, 3) := by decide +kernel
theorem dL_law_3257 : decode cL_law 3257 = .ok (.aload_n 3, 1) := by decide +kernel
theorem dL_law_3258 : decode cL_law 3258 = .ok (.iconst 0, 1) := by decide +kernel
theorem dL_law_3259 : decode cL_law 3259 = .ok (.laload, 1) := by decide +kernel
theorem dL_law_3260 : decode cL_law 3260 = .ok (.iload 6, 2) := by decide +kernel
theorem dL_law_3262 : decode cL_law 3262 = .ok (.i2l, 1) := by decide +kernel
theorem dL_law_3263 : decode cL_law 3263 = .ok (.lcmp, 1) := by decide +kernel
theorem dL_law_3264 : decode cL_law 3264 = .ok (.ifCond .eq 5, 3) := by decide +kernel
theorem dL_law_3267 : decode cL_law 3267 = .ok (.iconst 0, 1) := by decide +kernel
theorem dL_law_3268 : decode cL_law 3268 = .ok (.ireturn, 1) := by decide +kernel
theorem dL_law_3269 : decode cL_law 3269 = .ok (.goto 98, 3) := by decide +kernel
theorem dL_law_3272 : decode cL_law 3272 = .ok (.aload_n 1, 1) := by decide +kernel
theorem dL_law_3273 : decode cL_law 3273 = .ok (.invokevirtual 366, 3) := by decide +kernel
theorem dL_law_3276 : decode cL_law 3276 = .ok (.aload_n 2, 1) := by decide +kernel
theorem dL_law_3277 : decode cL_law 3277 = .ok (.invokevirtual 369, 3) := by decide +kernel
theorem dL_law_3280 : decode cL_law 3280 = .ok (.if_icmp .eq 87, 3) := by decide +kernel
theorem dL_law_3283 : decode cL_law 3283 = .ok (.iconst 0, 1) := by decide +kernel
theorem dL_law_3284 : decode cL_law 3284 = .ok (.ireturn, 1) := by decide +kernel
theorem dL_law_3285 : decode cL_law 3285 = .ok (.aload_n 1, 1) := by decide +kernel
theorem dL_law_3286 : decode cL_law 3286 = .ok (.invokevirtual 370, 3) := by decide +kernel
theorem dL_law_3289 : decode cL_law 3289 = .ok (.aload_n 2, 1) := by decide +kernel
theorem dL_law_3290 : decode cL_law 3290 = .ok (.invokevirtual 373, 3) := by decide +kernel
theorem dL_law_3293 : decode cL_law 3293 = .ok (.if_icmp .eq 74, 3) := by decide +kernel
theorem dL_law_3296 : decode cL_law 3296 = .ok (.iconst 0, 1) := by decide +kernel
theorem dL_law_3297 : decode cL_law 3297 = .ok (.ireturn, 1) := by decide +kernel
theorem dL_law_3298 : decode cL_law 3298 = .ok (.aload_n 1, 1) := by decide +kernel
theorem dL_law_3299 : decode cL_law 3299 = .ok (.invokevirtual 374, 3) := by decide +kernel
theorem dL_law_3302 : decode cL_law 3302 = .ok (.aload_n 2, 1) := by decide +kernel
theorem dL_law_3303 : decode cL_law 3303 = .ok (.invokevirtual 377, 3) := by decide +kernel
theorem dL_law_3306 : decode cL_law 3306 = .ok (.if_icmp .eq 61, 3) := by decide +kernel
theorem dL_law_3309 : decode cL_law 3309 = .ok (.iconst 0, 1) := by decide +kernel
theorem dL_law_3310 : decode cL_law 3310 = .ok (.ireturn, 1) := by decide +kernel
theorem dL_law_3311 : decode cL_law 3311 = .ok (.aload_n 1, 1) := by decide +kernel
theorem dL_law_3312 : decode cL_law 3312 = .ok (.aload_n 0, 1) := by decide +kernel
theorem dL_law_3313 : decode cL_law 3313 = .ok (.iload 4, 2) := by decide +kernel
theorem dL_law_3315 : decode cL_law 3315 = .ok (.iconst 1, 1) := by decide +kernel
theorem dL_law_3316 : decode cL_law 3316 = .ok (.iadd, 1) := by decide +kernel
theorem dL_law_3317 : decode cL_law 3317 = .ok (.iaload, 1) := by decide +kernel
theorem dL_law_3318 : decode cL_law 3318 = .ok (.aload_n 3, 1) := by decide +kernel
theorem dL_law_3319 : decode cL_law 3319 = .ok (.invokestatic 378, 3) := by decide +kernel
theorem dL_law_3322 : decode cL_law 3322 = .ok (.istore 5, 2) := by decide +kernel
theorem dL_law_3324 : decode cL_law 3324 = .ok (.aload_n 2, 1) := by decide +kernel
theorem dL_law_3325 : decode cL_law 3325 = .ok (.aload_n 0, 1) := by decide +kernel
theorem dL_law_3326 : decode cL_law 3326 = .ok (.iload 4, 2) := by decide +kernel
theorem dL_law_3328 : decode cL_law 3328 = .ok (.iconst 1, 1) := by decide +kernel
theorem dL_law_3329 : decode cL_law 3329 = .ok (.iadd, 1) := by decide +kernel
theorem dL_law_3330 : decode cL_law 3330 = .ok (.iaload, 1) := by decide +kernel
theorem dL_law_3331 : decode cL_law 3331 = .ok (.invokevirtual 380, 3) := by decide +kernel
theorem dL_law_3334 : decode cL_law 3334 = .ok (.istore 6, 2) := by decide +kernel
theorem dL_law_3336 : decode cL_law 3336 = .ok (.aload_n 2, 1) := by decide +kernel
theorem dL_law_3337 : decode cL_law 3337 = .ok (.invokevirtual 158, 3) := by decide +kernel
theorem dL_law_3340 : decode cL_law 3340 = .ok (.iload 5, 2) := by decide +kernel
theorem dL_law_3342 : decode cL_law 3342 = .ok (.if_icmp .eq 5, 3) := by decide +kernel
theorem dL_law_3345 : decode cL_law 3345 = .ok (.iconst 0, 1) := by decide +kernel
theorem dL_law_3346 : decode cL_law 3346 = .ok (.ireturn, 1) := by decide +kernel
theorem dL_law_3347 : decode cL_law 3347 = .ok (.iload 5, 2) := by decide +kernel
theorem dL_law_3349 : decode cL_law 3349 = .ok (.ifCond .ne 15, 3) := by decide +kernel
theorem dL_law_3352 : decode cL_law 3352 = .ok (.aload_n 3, 1) := by decide +kernel
theorem dL_law_3353 : decode cL_law 3353 = .ok (.iconst 0, 1) := by decide +kernel
theorem dL_law_3354 : decode cL_law 3354 = .ok (.laload, 1) := by decide +kernel
theorem dL_law_3355 : decode cL_law 3355 = .ok (.iload 6, 2) := by decide +kernel
theorem dL_law_3357 : decode cL_law 3357 = .ok (.i2l, 1) := by decide +kernel
theorem dL_law_3358 : decode cL_law 3358 = .ok (.lcmp, 1) := by decide +kernel
theorem dL_law_3359 : decode cL_law 3359 = .ok (.ifCond .eq 5, 3) := by decide +kernel
theorem dL_law_3362 : decode cL_law 3362 = .ok (.iconst 0, 1) := by decide +kernel
theorem dL_law_3363 : decode cL_law 3363 = .ok (.ireturn, 1) := by decide +kernel
theorem dL_law_3364 : decode cL_law 3364 = .ok (.goto 3, 3) := by decide +kernel
theorem dL_law_3367 : decode cL_law 3367 = .ok (.iinc 4 6, 3) := by decide +kernel
theorem dL_law_3370 : decode cL_law 3370 = .ok (.goto (-3347), 3) := by decide +kernel
theorem dL_law_3373 : decode cL_law 3373 = .ok (.iconst 1, 1) := by decide +kernel
theorem dL_law_3374 : decode cL_law 3374 = .ok (.ireturn, 1) := by decide +kernel
