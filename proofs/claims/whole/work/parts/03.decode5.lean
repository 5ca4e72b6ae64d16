set_option maxRecDepth 20000
theorem dL_law__2264 : decode cL_law_ 2264 = .ok (.iconst 0, 1) := by decide +kernel
theorem dL_law__2265 : decode cL_law_ 2265 = .ok (.invokevirtual 256, 3) := by decide +kernel
theorem dL_law__2268 : decode cL_law_ 2268 = .ok (.istore 6, 2) := by decide +kernel
theorem dL_law__2270 : decode cL_law_ 2270 = .ok (.aload_n 2, 1) := by decide +kernel
theorem dL_law__2271 : decode cL_law_ 2271 = .ok (.invokevirtual 136, 3) := by decide +kernel
theorem dL_law__2274 : decode cL_law_ 2274 = .ok (.iload 5, 2) := by decide +kernel
theorem dL_law__2276 : decode cL_law_ 2276 = .ok (.if_icmp .eq 5, 3) := by decide +kernel
theorem dL_law__2279 : decode cL_law_ 2279 = .ok (.iconst 0, 1) := by decide +kernel
theorem dL_law__2280 : decode cL_law_ 2280 = .ok (.ireturn, 1) := by decide +kernel
theorem dL_law__2281 : decode cL_law_ 2281 = .ok (.iload 5, 2) := by decide +kernel
theorem dL_law__2283 : decode cL_law_ 2283 = .ok (.ifCond .ne 15, 3) := by decide +kernel
theorem dL_law__2286 : decode cL_law_ 2286 = .ok (.aload_n 3, 1) := by decide +kernel
theorem dL_law__2287 : decode cL_law_ 2287 = .ok (.iconst 0, 1) := by decide +kernel
theorem dL_law__2288 : decode cL_law_ 2288 = .ok (.laload, 1) := by decide +kernel
theorem dL_law__2289 : decode cL_law_ 2289 = .ok (.iload 6, 2) := by decide +kernel
theorem dL_law__2291 : decode cL_law_ 2291 = .ok (.i2l, 1) := by decide +kernel
theorem dL_law__2292 : decode cL_law_ 2292 = .ok (.lcmp, 1) := by decide +kernel
theorem dL_law__2293 : decode cL_law_ 2293 = .ok (.ifCond .eq 5, 3) := by decide +kernel
theorem dL_law__2296 : decode cL_law_ 2296 = .ok (.iconst 0, 1) := by decide +kernel
theorem dL_law__2297 : decode cL_law_ 2297 = .ok (.ireturn, 1) := by decide +kernel
theorem dL_law__2298 : decode cL_law_ 2298 = .ok (.goto 242, 3) := by decide +kernel
theorem dL_law__2301 : decode cL_law_ 2301 = .ok (.aload_n 1, 1) := by decide +kernel
theorem dL_law__2302 : decode cL_law_ 2302 = .ok (.aload_n 0, 1) := by decide +kernel
theorem dL_law__2303 : decode cL_law_ 2303 = .ok (.iload 4, 2) := by decide +kernel
theorem dL_law__2305 : decode cL_law_ 2305 = .ok (.iconst 1, 1) := by decide +kernel
theorem dL_law__2306 : decode cL_law_ 2306 = .ok (.iadd, 1) := by decide +kernel
theorem dL_law__2307 : decode cL_law_ 2307 = .ok (.iaload, 1) := by decide +kernel
theorem dL_law__2308 : decode cL_law_ 2308 = .ok (.aload_n 0, 1) := by decide +kernel
theorem dL_law__2309 : decode cL_law_ 2309 = .ok (.iload 4, 2) := by decide +kernel
theorem dL_law__2311 : decode cL_law_ 2311 = .ok (.iconst 2, 1) := by decide +kernel
theorem dL_law__2312 : decode cL_law_ 2312 = .ok (.iadd, 1) := by decide +kernel
theorem dL_law__2313 : decode cL_law_ 2313 = .ok (.iaload, 1) := by decide +kernel
theorem dL_law__2314 : decode cL_law_ 2314 = .ok (.ifCond .eq 7, 3) := by decide +kernel
theorem dL_law__2317 : decode cL_law_ 2317 = .ok (.iconst 1, 1) := by decide +kernel
theorem dL_law__2318 : decode cL_law_ 2318 = .ok (.goto 4, 3) := by decide +kernel
theorem dL_law__2321 : decode cL_law_ 2321 = .ok (.iconst 0, 1) := by decide +kernel
theorem dL_law__2322 : decode cL_law_ 2322 = .ok (.aload_n 3, 1) := by decide +kernel
theorem dL_law__2323 : decode cL_law_ 2323 = .ok (.invokestatic 257, 3) := by decide +kernel
theorem dL_law__2326 : decode cL_law_ 2326 = .ok (.istore 5, 2) := by decide +kernel
theorem dL_law__2328 : decode cL_law_ 2328 = .ok (.aload_n 2, 1) := by decide +kernel
theorem dL_law__2329 : decode cL_law_ 2329 = .ok (.aload_n 0, 1) := by decide +kernel
theorem dL_law__2330 : decode cL_law_ 2330 = .ok (.iload 4, 2) := by decide +kernel
theorem dL_law__2332 : decode cL_law_ 2332 = .ok (.iconst 1, 1) := by decide +kernel
theorem dL_law__2333 : decode cL_law_ 2333 = .ok (.iadd, 1) := by decide +kernel
theorem dL_law__2334 : decode cL_law_ 2334 = .ok (.iaload, 1) := by decide +kernel
theorem dL_law__2335 : decode cL_law_ 2335 = .ok (.aload_n 0, 1) := by decide +kernel
theorem dL_law__2336 : decode cL_law_ 2336 = .ok (.iload 4, 2) := by decide +kernel
theorem dL_law__2338 : decode cL_law_ 2338 = .ok (.iconst 2, 1) := by decide +kernel
theorem dL_law__2339 : decode cL_law_ 2339 = .ok (.iadd, 1) := by decide +kernel
theorem dL_law__2340 : decode cL_law_ 2340 = .ok (.iaload, 1) := by decide +kernel
theorem dL_law__2341 : decode cL_law_ 2341 = .ok (.ifCond .eq 7, 3) := by decide +kernel
theorem dL_law__2344 : decode cL_law_ 2344 = .ok (.iconst 1, 1) := by decide +kernel
theorem dL_law__2345 : decode cL_law_ 2345 = .ok (.goto 4, 3) := by decide +kernel
theorem dL_law__2348 : decode cL_law_ 2348 = .ok (.iconst 0, 1) := by decide +kernel
theorem dL_law__2349 : decode cL_law_ 2349 = .ok (.invokevirtual 259, 3) := by decide +kernel
theorem dL_law__2352 : decode cL_law_ 2352 = .ok (.istore 6, 2) := by decide +kernel
theorem dL_law__2354 : decode cL_law_ 2354 = .ok (.aload_n 2, 1) := by decide +kernel
theorem dL_law__2355 : decode cL_law_ 2355 = .ok (.invokevirtual 136, 3) := by decide +kernel
theorem dL_law__2358 : decode cL_law_ 2358 = .ok (.iload 5, 2) := by decide +kernel
theorem dL_law__2360 : decode cL_law_ 2360 = .ok (.if_icmp .eq 5, 3) := by decide +kernel
theorem dL_law__2363 : decode cL_law_ 2363 = .ok (.iconst 0, 1) := by decide +kernel
theorem dL_law__2364 : decode cL_law_ 2364 = .ok (.ireturn, 1) := by decide +kernel
theorem dL_law__2365 : decode cL_law_ 2365 = .ok (.iload 5, 2) := by decide +kernel
theorem dL_law__2367 : decode cL_law_ 2367 = .ok (.ifCond .ne 15, 3) := by decide +kernel
theorem dL_law__2370 : decode cL_law_ 2370 = .ok (.aload_n 3, 1) := by decide +kernel
theorem dL_law__2371 : decode cL_law_ 2371 = .ok (.iconst 0, 1) := by decide +kernel
theorem dL_law__2372 : decode cL_law_ 2372 = .ok (.laload, 1) := by decide +kernel
theorem dL_law__2373 : decode cL_law_ 2373 = .ok (.iload 6, 2) := by decide +kernel
theorem dL_law__2375 : decode cL_law_ 2375 = .ok (.i2l, 1) := by decide +kernel
theorem dL_law__2376 : decode cL_law_ 2376 = .ok (.lcmp, 1) := by decide +kernel
theorem dL_law__2377 : decode cL_law_ 2377 = .ok (.ifCond .eq 5, 3) := by decide +kernel
theorem dL_law__2380 : decode cL_law_ 2380 = .ok (.iconst 0, 1) := by decide +kernel
theorem dL_law__2381 : decode cL_law_ 2381 = .ok (.ireturn, 1) := by decide +kernel
theorem dL_law__2382 : decode cL_law_ 2382 = .ok (.goto 158, 3) := by decide +kernel
theorem dL_law__2385 : decode cL_law_ 2385 = .ok (.aload_n 1, 1) := by decide +kernel
theorem dL_law__2386 : decode cL_law_ 2386 = .ok (.aload_n 0, 1) := by decide +kernel
theorem dL_law__2387 : decode cL_law_ 2387 = .ok (.iload 4, 2) := by decide +kernel
theorem dL_law__2389 : decode cL_law_ 2389 = .ok (.iconst 1, 1) := by decide +kernel
theorem dL_law__2390 : decode cL_law_ 2390 = .ok (.iadd, 1) := by decide +kernel
theorem dL_law__2391 : decode cL_law_ 2391 = .ok (.iaload, 1) := by decide +kernel
theorem dL_law__2392 : decode cL_law_ 2392 = .ok (.aload_n 0, 1) := by decide +kernel
theorem dL_law__2393 : decode cL_law_ 2393 = .ok (.iload 4, 2) := by decide +kernel
theorem dL_law__2395 : decode cL_law_ 2395 = .ok (.iconst 2, 1) := by decide +kernel
theorem dL_law__2396 : decode cL_law_ 2396 = .ok (.iadd, 1) := by decide +kernel
theorem dL_law__2397 : decode cL_law_ 2397 = .ok (.iaload, 1) := by decide +kernel
theorem dL_law__2398 : decode cL_law_ 2398 = .ok (.aload_n 3, 1) := by decide +kernel
theorem dL_law__2399 : decode cL_law_ 2399 = .ok (.invokestatic 260, 3) := by decide +kernel
theorem dL_law__2402 : decode cL_law_ 2402 = .ok (.istore 5, 2) := by decide +kernel
theorem dL_law__2404 : decode cL_law_ 2404 = .ok (.aload_n 2, 1) := by decide +kernel
theorem dL_law__2405 : decode cL_law_ 2405 = .ok (.aload_n 0, 1) := by decide +kernel
theorem dL_law__2406 : decode cL_law_ 2406 = .ok (.iload 4, 2) := by decide +kernel
theorem dL_law__2408 : decode cL_law_ 2408 = .ok (.iconst 1, 1) := by decide +kernel
theorem dL_law__2409 : decode cL_law_ 2409 = .ok (.iadd, 1) := by decide +kernel
theorem dL_law__2410 : decode cL_law_ 2410 = .ok (.iaload, 1) := by decide +kernel
theorem dL_law__2411 : decode cL_law_ 2411 = .ok (.aload_n 0, 1) := by decide +kernel
theorem dL_law__2412 : decode cL_law_ 2412 = .ok (.iload 4, 2) := by decide +kernel
theorem dL_law__2414 : decode cL_law_ 2414 = .ok (.iconst 2, 1) := by decide +kernel
theorem dL_law__2415 : decode cL_law_ 2415 = .ok (.iadd, 1) := by decide +kernel
theorem dL_law__2416 : decode cL_law_ 2416 = .ok (.iaload, 1) := by decide +kernel
theorem dL_law__2417 : decode cL_law_ 2417 = .ok (.invokevirtual 262, 3) := by decide +kernel
theorem dL_law__2420 : decode cL_law_ 2420 = .ok (.istore 6, 2) := by decide +kernel
theorem dL_law__2422 : decode cL_law_ 2422 = .ok (.aload_n 2, 1) := by decide +kernel
theorem dL_law__2423 : decode cL_law_ 2423 = .ok (.invokevirtual 136, 3) := by decide +kernel
theorem dL_law__2426 : decode cL_law_ 2426 = .ok (.iload 5, 2) := by decide +kernel
theorem dL_law__2428 : decode cL_law_ 2428 = .ok (.if_icmp .eq 5, 3) := by decide +kernel
theorem dL_law__2431 : decode cL_law_ 2431 = .ok (.iconst 0, 1) := by decide +kernel
theorem dL_law__2432 : decode cL_law_ 2432 = .ok (.ireturn, 1) := by decide +kernel
theorem dL_law__2433 : decode cL_law_ 2433 = .ok (.iload 5, 2) := by decide +kernel
theorem dL_law__2435 : decode cL_law_ 2435 = .ok (.ifCond .ne 15, 3) := by decide +kernel
theorem dL_law__2438 : decode cL_law_ 2438 = .ok (.aload_n 3, 1) := by decide +kernel
theorem dL_law__2439 : decode cL_law_ 2439 = .ok (.iconst 0, 1) := by decide +kernel
theorem dL_law__2440 : decode cL_law_ 2440 = .ok (.laload, 1) := by decide +kernel
theorem dL_law__2441 : decode cL_law_ 2441 = .ok (.iload 6, 2) := by decide +kernel
theorem dL_law__2443 : decode cL_law_ 2443 = .ok (.i2l, 1) := by decide +kernel
theorem dL_law__2444 : decode cL_law_ 2444 = .ok (.lcmp, 1) := by decide +kernel
theorem dL_law__2445 : decode cL_law_ 2445 = .ok (.ifCond .eq 5, 3) := by decide +kernel
theorem dL_law__2448 : decode cL_law_ 2448 = .ok (.iconst 0, 1) := by decide +kernel
theorem dL_law__2449 : decode cL_law_ 2449 = .ok (.ireturn, 1) := by decide +kernel
theorem dL_law__2450 : decode cL_law_ 2450 = .ok (.goto 90, 3) := by decide +kernel
theorem dL_law__2453 : decode cL_law_ 2453 = .ok (.aload_n 1, 1) := by decide +kernel
theorem dL_law__2454 : decode cL_law_ 2454 = .ok (.aload_n 0, 1) := by decide +kernel
theorem dL_law__2455 : decode cL_law_ 2455 = .ok (.iload 4, 2) := by decide +kernel
theorem dL_law__2457 : decode cL_law_ 2457 = .ok (.iconst 1, 1) := by decide +kernel
theorem dL_law__2458 : decode cL_law_ 2458 = .ok (.iadd, 1) := by decide +kernel
theorem dL_law__2459 : decode cL_law_ 2459 = .ok (.iaload, 1) := by decide +kernel
theorem dL_law__2460 : decode cL_law_ 2460 = .ok (.invokevirtual 263, 3) := by decide +kernel
theorem dL_law__2463 : decode cL_law_ 2463 = .ok (.aload_n 2, 1) := by decide +kernel
theorem dL_law__2464 : decode cL_law_ 2464 = .ok (.aload_n 0, 1) := by decide +kernel
theorem dL_law__2465 : decode cL_law_ 2465 = .ok (.iload 4, 2) := by decide +kernel
theorem dL_law__2467 : decode cL_law_ 2467 = .ok (.iconst 1, 1) := by decide +kernel
theorem dL_law__2468 : decode cL_law_ 2468 = .ok (.iadd, 1) := by decide +kernel
theorem dL_law__2469 : decode cL_law_ 2469 = .ok (.iaload, 1) := by decide +kernel
theorem dL_law__2470 : decode cL_law_ 2470 = .ok (.invokevirtual 266, 3) := by decide +kernel
theorem dL_law__2473 : decode cL_law_ 2473 = .ok (.if_icmp .eq 67, 3) := by decide +kernel
theorem dL_law__2476 : decode cL_law_ 2476 = .ok (.iconst 0, 1) := by decide +kernel
theorem dL_law__2477 : decode cL_law_ 2477 = .ok (.ireturn, 1) := by decide +kernel
theorem dL_law__2478 : decode cL_law_ 2478 = .ok (.aload_n 1, 1) := by decide +kernel
theorem dL_law__2479 : decode cL_law_ 2479 = .ok (.invokevirtual 267, 3) := by decide +kernel
theorem dL_law__2482 : decode cL_law_ 2482 = .ok (.aload_n 2, 1) := by decide +kernel
theorem dL_law__2483 : decode cL_law_ 2483 = .ok (.invokevirtual 271, 3) := by decide +kernel
theorem dL_law__2486 : decode cL_law_ 2486 = .ok (.if_icmp .eq 54, 3) := by decide +kernel
theorem dL_law__2489 : decode cL_law_ 2489 = .ok (.iconst 0, 1) := by decide +kernel
theorem dL_law__2490 : decode cL_law_ 2490 = .ok (.ireturn, 1) := by decide +kernel
theorem dL_law__2491 : decode cL_law_ 2491 = .ok (.aload_n 1, 1) := by decide +kernel
theorem dL_law__2492 : decode cL_law_ 2492 = .ok (.invokevirtual 272, 3) := by decide +kernel
theorem dL_law__2495 : decode cL_law_ 2495 = .ok (.aload_n 2, 1) := by decide +kernel
theorem dL_law__2496 : decode cL_law_ 2496 = .ok (.invokevirtual 275, 3) := by decide +kernel
theorem dL_law__2499 : decode cL_law_ 2499 = .ok (.goto 41, 3) := by decide +kernel
theorem dL_law__2502 : decode cL_law_ 2502 = .ok (.aload_n 1, 1) := by decide +kernel
theorem dL_law__2503 : decode cL_law_ 2503 = .ok (.invokevirtual 276, 3) := by decide +kernel
theorem dL_law__2506 : decode cL_law_ 2506 = .ok (.aload_n 2, 1) := by decide +kernel
theorem dL_law__2507 : decode cL_law_ 2507 = .ok (.invokevirtual 279, 3) := by decide +kernel
theorem dL_law__2510 : decode cL_law_ 2510 = .ok (.if_icmp .eq 30, 3) := by decide +kernel
theorem dL_law__2513 : decode cL_law_ 2513 = .ok (.iconst 0, 1) := by decide +kernel
theorem dL_law__2514 : decode cL_law_ 2514 = .ok (.ireturn, 1) := by decide +kernel
theorem dL_law__2515 : decode cL_law_ 2515 = .ok (.aload_n 1, 1) := by decide +kernel
theorem dL_law__2516 : decode cL_law_ 2516 = .ok (.aload_n 0, 1) := by decide +kernel
theorem dL_law__2517 : decode cL_law_ 2517 = .ok (.iload 4, 2) := by decide +kernel
theorem dL_law__2519 : decode cL_law_ 2519 = .ok (.iconst 1, 1) := by decide +kernel
theorem dL_law__2520 : decode cL_law_ 2520 = .ok (.iadd, 1) := by decide +kernel
theorem dL_law__2521 : decode cL_law_ 2521 = .ok (.iaload, 1) := by decide +kernel
theorem dL_law__2522 : decode cL_law_ 2522 = .ok (.invokevirtual 280, 3) := by decide +kernel
theorem dL_law__2525 : decode cL_law_ 2525 = .ok (.aload_n 2, 1) := by decide +kernel
theorem dL_law__2526 : decode cL_law_ 2526 = .ok (.aload_n 0, 1) := by decide +kernel
theorem dL_law__2527 : decode cL_law_ 2527 = .ok (.iload 4, 2) := by decide +kernel
theorem dL_law__2529 : decode cL_law_ 2529 = .ok (.iconst 1, 1) := by decide +kernel
theorem dL_law__2530 : decode cL_law_ 2530 = .ok (.iadd, 1) := by decide +kernel
theorem dL_law__2531 : decode cL_law_ 2531 = .ok (.iaload, 1) := by decide +kernel
theorem dL_law__2532 : decode cL_law_ 2532 = .ok (.invokevirtual 283, 3) := by decide +kernel
theorem dL_law__2535 : decode cL_law_ 2535 = .ok (.if_icmp .eq 5, 3) := by decide +kernel
theorem dL_law__2538 : decode cL_law_ 2538 = .ok (.iconst 0, 1) := by decide +kernel
theorem dL_law__2539 : decode cL_law_ 2539 = .ok (.ireturn, 1) := by decide +kernel
theorem dL_law__2540 : decode cL_law_ 2540 = .ok (.iinc 4 6, 3) := by decide +kernel
theorem dL_law__2543 : decode cL_law_ 2543 = .ok (.goto (-2520), 3) := by decide +kernel
theorem dL_law__2546 : decode cL_law_ 2546 = .ok (.iconst 1, 1) := by decide +kernel
theorem dL_law__2547 : decode cL_law_ 2547 = .ok (.ireturn, 1) := by decide +kernel
