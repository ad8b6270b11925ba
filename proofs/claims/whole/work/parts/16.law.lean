def xlt (pc : Nat) : Option (Jvm.ClassFile.Instr × Nat) := bif Nat.ble 337 pc then (bif Nat.ble 463 pc then (bif Nat.ble 524 pc then (bif Nat.ble 556 pc then (bif Nat.ble 572 pc then (bif Nat.ble 582 pc then (bif Nat.ble 587 pc then (bif Nat.ble 590 pc then (bif Nat.ble 591 pc then (bif Nat.beq pc 591 then some (.ireturn, 1) else none) else (bif Nat.beq pc 590 then some (.iconst 1, 1) else none)) else (bif Nat.beq pc 587 then some (.goto (-569), 3) else none)) else (bif Nat.ble 583 pc then (bif Nat.ble 584 pc then (bif Nat.beq pc 584 then some (.iinc 3 4, 3) else none) else (bif Nat.beq pc 583 then some (.ireturn, 1) else none)) else (bif Nat.beq pc 582 then some (.iconst 0, 1) else none))) else (bif Nat.ble 575 pc then (bif Nat.ble 576 pc then (bif Nat.ble 579 pc then (bif Nat.beq pc 579 then some (.if_icmp .eq 5, 3) else none) else (bif Nat.beq pc 576 then some (.invokevirtual 88, 3) else none)) else (bif Nat.beq pc 575 then some (.iaload, 1) else none)) else (bif Nat.ble 573 pc then (bif Nat.ble 574 pc then (bif Nat.beq pc 574 then some (.iadd, 1) else none) else (bif Nat.beq pc 573 then some (.iconst 1, 1) else none)) else (bif Nat.beq pc 572 then some (.iload_n 3, 1) else none)))) else (bif Nat.ble 564 pc then (bif Nat.ble 567 pc then (bif Nat.ble 570 pc then (bif Nat.ble 571 pc then (bif Nat.beq pc 571 then some (.aload_n 0, 1) else none) else (bif Nat.beq pc 570 then some (.aload_n 2, 1) else none)) else (bif Nat.beq pc 567 then some (.invokevirtual 85, 3) else none)) else (bif Nat.ble 565 pc then (bif Nat.ble 566 pc then (bif Nat.beq pc 566 then some (.iaload, 1) else none) else (bif Nat.beq pc 565 then some (.iadd, 1) else none)) else (bif Nat.beq pc 564 then some (.iconst 1, 1) else none))) else (bif Nat.ble 561 pc then (bif Nat.ble 562 pc then (bif Nat.ble 563 pc then (bif Nat.beq pc 563 then some (.iload_n 3, 1) else none) else (bif Nat.beq pc 562 then some (.aload_n 0, 1) else none)) else (bif Nat.beq pc 561 then some (.aload_n 1, 1) else none)) else (bif Nat.ble 559 pc then (bif Nat.ble 560 pc then (bif Nat.beq pc 560 then some (.ireturn, 1) else none) else (bif Nat.beq pc 559 then some (.iconst 0, 1) else none)) else (bif Nat.beq pc 556 then some (.ifCond .eq 28, 3) else none))))) else (bif Nat.ble 540 pc then (bif Nat.ble 548 pc then (bif Nat.ble 551 pc then (bif Nat.ble 552 pc then (bif Nat.ble 555 pc then (bif Nat.beq pc 555 then some (.lcmp, 1) else none) else (bif Nat.beq pc 552 then some (.invokevirtual 84, 3) else none)) else (bif Nat.beq pc 551 then some (.iaload, 1) else none)) else (bif Nat.ble 549 pc then (bif Nat.ble 550 pc then (bif Nat.beq pc 550 then some (.iadd, 1) else none) else (bif Nat.beq pc 549 then some (.iconst 1, 1) else none)) else (bif Nat.beq pc 548 then some (.iload_n 3, 1) else none))) else (bif Nat.ble 543 pc then (bif Nat.ble 546 pc then (bif Nat.ble 547 pc then (bif Nat.beq pc 547 then some (.aload_n 0, 1) else none) else (bif Nat.beq pc 546 then some (.aload_n 2, 1) else none)) else (bif Nat.beq pc 543 then some (.invokevirtual 81, 3) else none)) else (bif Nat.ble 541 pc then (bif Nat.ble 542 pc then (bif Nat.beq pc 542 then some (.iaload, 1) else none) else (bif Nat.beq pc 541 then some (.iadd, 1) else none)) else (bif Nat.beq pc 540 then some (.iconst 1, 1) else none)))) else (bif Nat.ble 532 pc then (bif Nat.ble 537 pc then (bif Nat.ble 538 pc then (bif Nat.ble 539 pc then (bif Nat.beq pc 539 then some (.iload_n 3, 1) else none) else (bif Nat.beq pc 538 then some (.aload_n 0, 1) else none)) else (bif Nat.beq pc 537 then some (.aload_n 1, 1) else none)) else (bif Nat.ble 535 pc then (bif Nat.ble 536 pc then (bif Nat.beq pc 536 then some (.ireturn, 1) else none) else (bif Nat.beq pc 535 then some (.iconst 0, 1) else none)) else (bif Nat.beq pc 532 then some (.if_icmp .eq 52, 3) else none))) else (bif Nat.ble 527 pc then (bif Nat.ble 528 pc then (bif Nat.ble 529 pc then (bif Nat.beq pc 529 then some (.invokevirtual 80, 3) else none) else (bif Nat.beq pc 528 then some (.iaload, 1) else none)) else (bif Nat.beq pc 527 then some (.iadd, 1) else none)) else (bif Nat.ble 525 pc then (bif Nat.ble 526 pc then (bif Nat.beq pc 526 then some (.iconst 2, 1) else none) else (bif Nat.beq pc 525 then some (.iload_n 3, 1) else none)) else (bif Nat.beq pc 524 then some (.aload_n 0, 1) else none)))))) else (bif Nat.ble 494 pc then (bif Nat.ble 510 pc then (bif Nat.ble 518 pc then (bif Nat.ble 521 pc then (bif Nat.ble 522 pc then (bif Nat.ble 523 pc then (bif Nat.beq pc 523 then some (.iaload, 1) else none) else (bif Nat.beq pc 522 then some (.iadd, 1) else none)) else (bif Nat.beq pc 521 then some (.iconst 1, 1) else none)) else (bif Nat.ble 519 pc then (bif Nat.ble 520 pc then (bif Nat.beq pc 520 then some (.iload_n 3, 1) else none) else (bif Nat.beq pc 519 then some (.aload_n 0, 1) else none)) else (bif Nat.beq pc 518 then some (.aload_n 2, 1) else none))) else (bif Nat.ble 513 pc then (bif Nat.ble 514 pc then (bif Nat.ble 515 pc then (bif Nat.beq pc 515 then some (.invokevirtual 77, 3) else none) else (bif Nat.beq pc 514 then some (.iaload, 1) else none)) else (bif Nat.beq pc 513 then some (.iadd, 1) else none)) else (bif Nat.ble 511 pc then (bif Nat.ble 512 pc then (bif Nat.beq pc 512 then some (.iconst 2, 1) else none) else (bif Nat.beq pc 511 then some (.iload_n 3, 1) else none)) else (bif Nat.beq pc 510 then some (.aload_n 0, 1) else none)))) else (bif Nat.ble 504 pc then (bif Nat.ble 507 pc then (bif Nat.ble 508 pc then (bif Nat.ble 509 pc then (bif Nat.beq pc 509 then some (.iaload, 1) else none) else (bif Nat.beq pc 508 then some (.iadd, 1) else none)) else (bif Nat.beq pc 507 then some (.iconst 1, 1) else none)) else (bif Nat.ble 505 pc then (bif Nat.ble 506 pc then (bif Nat.beq pc 506 then some (.iload_n 3, 1) else none) else (bif Nat.beq pc 505 then some (.aload_n 0, 1) else none)) else (bif Nat.beq pc 504 then some (.aload_n 1, 1) else none))) else (bif Nat.ble 499 pc then (bif Nat.ble 502 pc then (bif Nat.ble 503 pc then (bif Nat.beq pc 503 then some (.ireturn, 1) else none) else (bif Nat.beq pc 502 then some (.iconst 0, 1) else none)) else (bif Nat.beq pc 499 then some (.if_icmp .eq 85, 3) else none)) else (bif Nat.ble 495 pc then (bif Nat.ble 496 pc then (bif Nat.beq pc 496 then some (.invokevirtual 76, 3) else none) else (bif Nat.beq pc 495 then some (.iaload, 1) else none)) else (bif Nat.beq pc 494 then some (.iadd, 1) else none))))) else (bif Nat.ble 480 pc then (bif Nat.ble 486 pc then (bif Nat.ble 491 pc then (bif Nat.ble 492 pc then (bif Nat.ble 493 pc then (bif Nat.beq pc 493 then some (.iconst 1, 1) else none) else (bif Nat.beq pc 492 then some (.iload_n 3, 1) else none)) else (bif Nat.beq pc 491 then some (.aload_n 0, 1) else none)) else (bif Nat.ble 487 pc then (bif Nat.ble 490 pc then (bif Nat.beq pc 490 then some (.aload_n 2, 1) else none) else (bif Nat.beq pc 487 then some (.invokevirtual 73, 3) else none)) else (bif Nat.beq pc 486 then some (.iaload, 1) else none))) else (bif Nat.ble 483 pc then (bif Nat.ble 484 pc then (bif Nat.ble 485 pc then (bif Nat.beq pc 485 then some (.iadd, 1) else none) else (bif Nat.beq pc 484 then some (.iconst 1, 1) else none)) else (bif Nat.beq pc 483 then some (.iload_n 3, 1) else none)) else (bif Nat.ble 481 pc then (bif Nat.ble 482 pc then (bif Nat.beq pc 482 then some (.aload_n 0, 1) else none) else (bif Nat.beq pc 481 then some (.aload_n 1, 1) else none)) else (bif Nat.beq pc 480 then some (.ireturn, 1) else none)))) else (bif Nat.ble 470 pc then (bif Nat.ble 473 pc then (bif Nat.ble 476 pc then (bif Nat.ble 479 pc then (bif Nat.beq pc 479 then some (.iconst 0, 1) else none) else (bif Nat.beq pc 476 then some (.if_icmp .eq 108, 3) else none)) else (bif Nat.beq pc 473 then some (.invokevirtual 72, 3) else none)) else (bif Nat.ble 471 pc then (bif Nat.ble 472 pc then (bif Nat.beq pc 472 then some (.iaload, 1) else none) else (bif Nat.beq pc 471 then some (.iadd, 1) else none)) else (bif Nat.beq pc 470 then some (.iconst 1, 1) else none))) else (bif Nat.ble 467 pc then (bif Nat.ble 468 pc then (bif Nat.ble 469 pc then (bif Nat.beq pc 469 then some (.iload_n 3, 1) else none) else (bif Nat.beq pc 468 then some (.aload_n 0, 1) else none)) else (bif Nat.beq pc 467 then some (.aload_n 2, 1) else none)) else (bif Nat.ble 464 pc then (bif Nat.beq pc 464 then some (.invokevirtual 69, 3) else none) else (bif Nat.beq pc 463 then some (.iaload, 1) else none))))))) else (bif Nat.ble 400 pc then (bif Nat.ble 433 pc then (bif Nat.ble 447 pc then (bif Nat.ble 457 pc then (bif Nat.ble 460 pc then (bif Nat.ble 461 pc then (bif Nat.ble 462 pc then (bif Nat.beq pc 462 then some (.iadd, 1) else none) else (bif Nat.beq pc 461 then some (.iconst 1, 1) else none)) else (bif Nat.beq pc 460 then some (.iload_n 3, 1) else none)) else (bif Nat.ble 458 pc then (bif Nat.ble 459 pc then (bif Nat.beq pc 459 then some (.aload_n 0, 1) else none) else (bif Nat.beq pc 458 then some (.aload_n 1, 1) else none)) else (bif Nat.beq pc 457 then some (.ireturn, 1) else none))) else (bif Nat.ble 450 pc then (bif Nat.ble 453 pc then (bif Nat.ble 456 pc then (bif Nat.beq pc 456 then some (.iconst 0, 1) else none) else (bif Nat.beq pc 453 then some (.if_icmp .eq 131, 3) else none)) else (bif Nat.beq pc 450 then some (.invokevirtual 68, 3) else none)) else (bif Nat.ble 448 pc then (bif Nat.ble 449 pc then (bif Nat.beq pc 449 then some (.iaload, 1) else none) else (bif Nat.beq pc 448 then some (.iadd, 1) else none)) else (bif Nat.beq pc 447 then some (.iconst 1, 1) else none)))) else (bif Nat.ble 439 pc then (bif Nat.ble 444 pc then (bif Nat.ble 445 pc then (bif Nat.ble 446 pc then (bif Nat.beq pc 446 then some (.iload_n 3, 1) else none) else (bif Nat.beq pc 445 then some (.aload_n 0, 1) else none)) else (bif Nat.beq pc 444 then some (.aload_n 2, 1) else none)) else (bif Nat.ble 440 pc then (bif Nat.ble 441 pc then (bif Nat.beq pc 441 then some (.invokevirtual 65, 3) else none) else (bif Nat.beq pc 440 then some (.iaload, 1) else none)) else (bif Nat.beq pc 439 then some (.iadd, 1) else none))) else (bif Nat.ble 436 pc then (bif Nat.ble 437 pc then (bif Nat.ble 438 pc then (bif Nat.beq pc 438 then some (.iconst 1, 1) else none) else (bif Nat.beq pc 437 then some (.iload_n 3, 1) else none)) else (bif Nat.beq pc 436 then some (.aload_n 0, 1) else none)) else (bif Nat.ble 434 pc then (bif Nat.ble 435 pc then (bif Nat.beq pc 435 then some (.aload_n 1, 1) else none) else (bif Nat.beq pc 434 then some (.ireturn, 1) else none)) else (bif Nat.beq pc 433 then some (.iconst 0, 1) else none))))) else (bif Nat.ble 415 pc then (bif Nat.ble 423 pc then (bif Nat.ble 426 pc then (bif Nat.ble 427 pc then (bif Nat.ble 430 pc then (bif Nat.beq pc 430 then some (.if_icmp .eq 154, 3) else none) else (bif Nat.beq pc 427 then some (.invokevirtual 64, 3) else none)) else (bif Nat.beq pc 426 then some (.iaload, 1) else none)) else (bif Nat.ble 424 pc then (bif Nat.ble 425 pc then (bif Nat.beq pc 425 then some (.iadd, 1) else none) else (bif Nat.beq pc 424 then some (.iconst 1, 1) else none)) else (bif Nat.beq pc 423 then some (.iload_n 3, 1) else none))) else (bif Nat.ble 418 pc then (bif Nat.ble 421 pc then (bif Nat.ble 422 pc then (bif Nat.beq pc 422 then some (.aload_n 0, 1) else none) else (bif Nat.beq pc 421 then some (.aload_n 2, 1) else none)) else (bif Nat.beq pc 418 then some (.invokevirtual 61, 3) else none)) else (bif Nat.ble 416 pc then (bif Nat.ble 417 pc then (bif Nat.beq pc 417 then some (.iaload, 1) else none) else (bif Nat.beq pc 416 then some (.iadd, 1) else none)) else (bif Nat.beq pc 415 then some (.iconst 1, 1) else none)))) else (bif Nat.ble 407 pc then (bif Nat.ble 412 pc then (bif Nat.ble 413 pc then (bif Nat.ble 414 pc then (bif Nat.beq pc 414 then some (.iload_n 3, 1) else none) else (bif Nat.beq pc 413 then some (.aload_n 0, 1) else none)) else (bif Nat.beq pc 412 then some (.aload_n 1, 1) else none)) else (bif Nat.ble 410 pc then (bif Nat.ble 411 pc then (bif Nat.beq pc 411 then some (.ireturn, 1) else none) else (bif Nat.beq pc 410 then some (.iconst 0, 1) else none)) else (bif Nat.beq pc 407 then some (.ifCond .eq 177, 3) else none))) else (bif Nat.ble 402 pc then (bif Nat.ble 403 pc then (bif Nat.ble 406 pc then (bif Nat.beq pc 406 then some (.lcmp, 1) else none) else (bif Nat.beq pc 403 then some (.invokevirtual 60, 3) else none)) else (bif Nat.beq pc 402 then some (.iaload, 1) else none)) else (bif Nat.ble 401 pc then (bif Nat.beq pc 401 then some (.iadd, 1) else none) else (bif Nat.beq pc 400 then some (.iconst 1, 1) else none)))))) else (bif Nat.ble 366 pc then (bif Nat.ble 386 pc then (bif Nat.ble 392 pc then (bif Nat.ble 397 pc then (bif Nat.ble 398 pc then (bif Nat.ble 399 pc then (bif Nat.beq pc 399 then some (.iload_n 3, 1) else none) else (bif Nat.beq pc 398 then some (.aload_n 0, 1) else none)) else (bif Nat.beq pc 397 then some (.aload_n 2, 1) else none)) else (bif Nat.ble 393 pc then (bif Nat.ble 394 pc then (bif Nat.beq pc 394 then some (.invokevirtual 56, 3) else none) else (bif Nat.beq pc 393 then some (.iaload, 1) else none)) else (bif Nat.beq pc 392 then some (.iadd, 1) else none))) else (bif Nat.ble 389 pc then (bif Nat.ble 390 pc then (bif Nat.ble 391 pc then (bif Nat.beq pc 391 then some (.iconst 1, 1) else none) else (bif Nat.beq pc 390 then some (.iload_n 3, 1) else none)) else (bif Nat.beq pc 389 then some (.aload_n 0, 1) else none)) else (bif Nat.ble 387 pc then (bif Nat.ble 388 pc then (bif Nat.beq pc 388 then some (.aload_n 1, 1) else none) else (bif Nat.beq pc 387 then some (.ireturn, 1) else none)) else (bif Nat.beq pc 386 then some (.iconst 0, 1) else none)))) else (bif Nat.ble 374 pc then (bif Nat.ble 379 pc then (bif Nat.ble 382 pc then (bif Nat.ble 383 pc then (bif Nat.beq pc 383 then some (.ifCond .eq 201, 3) else none) else (bif Nat.beq pc 382 then some (.lcmp, 1) else none)) else (bif Nat.beq pc 379 then some (.invokevirtual 55, 3) else none)) else (bif Nat.ble 375 pc then (bif Nat.ble 378 pc then (bif Nat.beq pc 378 then some (.iconst 0, 1) else none) else (bif Nat.beq pc 375 then some (.goto 4, 3) else none)) else (bif Nat.beq pc 374 then some (.iconst 1, 1) else none))) else (bif Nat.ble 369 pc then (bif Nat.ble 370 pc then (bif Nat.ble 371 pc then (bif Nat.beq pc 371 then some (.ifCond .eq 7, 3) else none) else (bif Nat.beq pc 370 then some (.iaload, 1) else none)) else (bif Nat.beq pc 369 then some (.iadd, 1) else none)) else (bif Nat.ble 367 pc then (bif Nat.ble 368 pc then (bif Nat.beq pc 368 then some (.iconst 2, 1) else none) else (bif Nat.beq pc 367 then some (.iload_n 3, 1) else none)) else (bif Nat.beq pc 366 then some (.aload_n 0, 1) else none))))) else (bif Nat.ble 348 pc then (bif Nat.ble 360 pc then (bif Nat.ble 363 pc then (bif Nat.ble 364 pc then (bif Nat.ble 365 pc then (bif Nat.beq pc 365 then some (.iaload, 1) else none) else (bif Nat.beq pc 364 then some (.iadd, 1) else none)) else (bif Nat.beq pc 363 then some (.iconst 1, 1) else none)) else (bif Nat.ble 361 pc then (bif Nat.ble 362 pc then (bif Nat.beq pc 362 then some (.iload_n 3, 1) else none) else (bif Nat.beq pc 361 then some (.aload_n 0, 1) else none)) else (bif Nat.beq pc 360 then some (.aload_n 2, 1) else none))) else (bif Nat.ble 353 pc then (bif Nat.ble 356 pc then (bif Nat.ble 357 pc then (bif Nat.beq pc 357 then some (.invokevirtual 51, 3) else none) else (bif Nat.beq pc 356 then some (.iconst 0, 1) else none)) else (bif Nat.beq pc 353 then some (.goto 4, 3) else none)) else (bif Nat.ble 349 pc then (bif Nat.ble 352 pc then (bif Nat.beq pc 352 then some (.iconst 1, 1) else none) else (bif Nat.beq pc 349 then some (.ifCond .eq 7, 3) else none)) else (bif Nat.beq pc 348 then some (.iaload, 1) else none)))) else (bif Nat.ble 342 pc then (bif Nat.ble 345 pc then (bif Nat.ble 346 pc then (bif Nat.ble 347 pc then (bif Nat.beq pc 347 then some (.iadd, 1) else none) else (bif Nat.beq pc 346 then some (.iconst 2, 1) else none)) else (bif Nat.beq pc 345 then some (.iload_n 3, 1) else none)) else (bif Nat.ble 343 pc then (bif Nat.ble 344 pc then (bif Nat.beq pc 344 then some (.aload_n 0, 1) else none) else (bif Nat.beq pc 343 then some (.iaload, 1) else none)) else (bif Nat.beq pc 342 then some (.iadd, 1) else none))) else (bif Nat.ble 339 pc then (bif Nat.ble 340 pc then (bif Nat.ble 341 pc then (bif Nat.beq pc 341 then some (.iconst 1, 1) else none) else (bif Nat.beq pc 340 then some (.iload_n 3, 1) else none)) else (bif Nat.beq pc 339 then some (.aload_n 0, 1) else none)) else (bif Nat.ble 338 pc then (bif Nat.beq pc 338 then some (.aload_n 1, 1) else none) else (bif Nat.beq pc 337 then some (.ireturn, 1) else none)))))))) else (bif Nat.ble 212 pc then (bif Nat.ble 273 pc then (bif Nat.ble 307 pc then (bif Nat.ble 321 pc then (bif Nat.ble 327 pc then (bif Nat.ble 330 pc then (bif Nat.ble 333 pc then (bif Nat.ble 336 pc then (bif Nat.beq pc 336 then some (.iconst 0, 1) else none) else (bif Nat.beq pc 333 then some (.if_icmp .eq 251, 3) else none)) else (bif Nat.beq pc 330 then some (.invokevirtual 50, 3) else none)) else (bif Nat.ble 328 pc then (bif Nat.ble 329 pc then (bif Nat.beq pc 329 then some (.iaload, 1) else none) else (bif Nat.beq pc 328 then some (.iadd, 1) else none)) else (bif Nat.beq pc 327 then some (.iconst 2, 1) else none))) else (bif Nat.ble 324 pc then (bif Nat.ble 325 pc then (bif Nat.ble 326 pc then (bif Nat.beq pc 326 then some (.iload_n 3, 1) else none) else (bif Nat.beq pc 325 then some (.aload_n 0, 1) else none)) else (bif Nat.beq pc 324 then some (.iaload, 1) else none)) else (bif Nat.ble 322 pc then (bif Nat.ble 323 pc then (bif Nat.beq pc 323 then some (.iadd, 1) else none) else (bif Nat.beq pc 322 then some (.iconst 1, 1) else none)) else (bif Nat.beq pc 321 then some (.iload_n 3, 1) else none)))) else (bif Nat.ble 313 pc then (bif Nat.ble 316 pc then (bif Nat.ble 319 pc then (bif Nat.ble 320 pc then (bif Nat.beq pc 320 then some (.aload_n 0, 1) else none) else (bif Nat.beq pc 319 then some (.aload_n 2, 1) else none)) else (bif Nat.beq pc 316 then some (.invokevirtual 47, 3) else none)) else (bif Nat.ble 314 pc then (bif Nat.ble 315 pc then (bif Nat.beq pc 315 then some (.iaload, 1) else none) else (bif Nat.beq pc 314 then some (.iadd, 1) else none)) else (bif Nat.beq pc 313 then some (.iconst 2, 1) else none))) else (bif Nat.ble 310 pc then (bif Nat.ble 311 pc then (bif Nat.ble 312 pc then (bif Nat.beq pc 312 then some (.iload_n 3, 1) else none) else (bif Nat.beq pc 311 then some (.aload_n 0, 1) else none)) else (bif Nat.beq pc 310 then some (.iaload, 1) else none)) else (bif Nat.ble 308 pc then (bif Nat.ble 309 pc then (bif Nat.beq pc 309 then some (.iadd, 1) else none) else (bif Nat.beq pc 308 then some (.iconst 1, 1) else none)) else (bif Nat.beq pc 307 then some (.iload_n 3, 1) else none))))) else (bif Nat.ble 291 pc then (bif Nat.ble 297 pc then (bif Nat.ble 304 pc then (bif Nat.ble 305 pc then (bif Nat.ble 306 pc then (bif Nat.beq pc 306 then some (.aload_n 0, 1) else none) else (bif Nat.beq pc 305 then some (.aload_n 1, 1) else none)) else (bif Nat.beq pc 304 then some (.ireturn, 1) else none)) else (bif Nat.ble 300 pc then (bif Nat.ble 303 pc then (bif Nat.beq pc 303 then some (.iconst 0, 1) else none) else (bif Nat.beq pc 300 then some (.if_icmp .eq 284, 3) else none)) else (bif Nat.beq pc 297 then some (.invokevirtual 46, 3) else none))) else (bif Nat.ble 294 pc then (bif Nat.ble 295 pc then (bif Nat.ble 296 pc then (bif Nat.beq pc 296 then some (.iaload, 1) else none) else (bif Nat.beq pc 295 then some (.iadd, 1) else none)) else (bif Nat.beq pc 294 then some (.iconst 1, 1) else none)) else (bif Nat.ble 292 pc then (bif Nat.ble 293 pc then (bif Nat.beq pc 293 then some (.iload_n 3, 1) else none) else (bif Nat.beq pc 292 then some (.aload_n 0, 1) else none)) else (bif Nat.beq pc 291 then some (.aload_n 2, 1) else none)))) else (bif Nat.ble 283 pc then (bif Nat.ble 286 pc then (bif Nat.ble 287 pc then (bif Nat.ble 288 pc then (bif Nat.beq pc 288 then some (.invokevirtual 43, 3) else none) else (bif Nat.beq pc 287 then some (.iaload, 1) else none)) else (bif Nat.beq pc 286 then some (.iadd, 1) else none)) else (bif Nat.ble 284 pc then (bif Nat.ble 285 pc then (bif Nat.beq pc 285 then some (.iconst 1, 1) else none) else (bif Nat.beq pc 284 then some (.iload_n 3, 1) else none)) else (bif Nat.beq pc 283 then some (.aload_n 0, 1) else none))) else (bif Nat.ble 280 pc then (bif Nat.ble 281 pc then (bif Nat.ble 282 pc then (bif Nat.beq pc 282 then some (.aload_n 1, 1) else none) else (bif Nat.beq pc 281 then some (.ireturn, 1) else none)) else (bif Nat.beq pc 280 then some (.iconst 0, 1) else none)) else (bif Nat.ble 274 pc then (bif Nat.ble 277 pc then (bif Nat.beq pc 277 then some (.if_icmp .eq 307, 3) else none) else (bif Nat.beq pc 274 then some (.invokevirtual 42, 3) else none)) else (bif Nat.beq pc 273 then some (.iaload, 1) else none)))))) else (bif Nat.ble 247 pc then (bif Nat.ble 259 pc then (bif Nat.ble 267 pc then (bif Nat.ble 270 pc then (bif Nat.ble 271 pc then (bif Nat.ble 272 pc then (bif Nat.beq pc 272 then some (.iadd, 1) else none) else (bif Nat.beq pc 271 then some (.iconst 2, 1) else none)) else (bif Nat.beq pc 270 then some (.iload_n 3, 1) else none)) else (bif Nat.ble 268 pc then (bif Nat.ble 269 pc then (bif Nat.beq pc 269 then some (.aload_n 0, 1) else none) else (bif Nat.beq pc 268 then some (.iaload, 1) else none)) else (bif Nat.beq pc 267 then some (.iadd, 1) else none))) else (bif Nat.ble 264 pc then (bif Nat.ble 265 pc then (bif Nat.ble 266 pc then (bif Nat.beq pc 266 then some (.iconst 1, 1) else none) else (bif Nat.beq pc 265 then some (.iload_n 3, 1) else none)) else (bif Nat.beq pc 264 then some (.aload_n 0, 1) else none)) else (bif Nat.ble 260 pc then (bif Nat.ble 263 pc then (bif Nat.beq pc 263 then some (.aload_n 2, 1) else none) else (bif Nat.beq pc 260 then some (.invokevirtual 38, 3) else none)) else (bif Nat.beq pc 259 then some (.iaload, 1) else none)))) else (bif Nat.ble 253 pc then (bif Nat.ble 256 pc then (bif Nat.ble 257 pc then (bif Nat.ble 258 pc then (bif Nat.beq pc 258 then some (.iadd, 1) else none) else (bif Nat.beq pc 257 then some (.iconst 2, 1) else none)) else (bif Nat.beq pc 256 then some (.iload_n 3, 1) else none)) else (bif Nat.ble 254 pc then (bif Nat.ble 255 pc then (bif Nat.beq pc 255 then some (.aload_n 0, 1) else none) else (bif Nat.beq pc 254 then some (.iaload, 1) else none)) else (bif Nat.beq pc 253 then some (.iadd, 1) else none))) else (bif Nat.ble 250 pc then (bif Nat.ble 251 pc then (bif Nat.ble 252 pc then (bif Nat.beq pc 252 then some (.iconst 1, 1) else none) else (bif Nat.beq pc 251 then some (.iload_n 3, 1) else none)) else (bif Nat.beq pc 250 then some (.aload_n 0, 1) else none)) else (bif Nat.ble 248 pc then (bif Nat.ble 249 pc then (bif Nat.beq pc 249 then some (.aload_n 1, 1) else none) else (bif Nat.beq pc 248 then some (.ireturn, 1) else none)) else (bif Nat.beq pc 247 then some (.iconst 0, 1) else none))))) else (bif Nat.ble 225 pc then (bif Nat.ble 235 pc then (bif Nat.ble 240 pc then (bif Nat.ble 241 pc then (bif Nat.ble 244 pc then (bif Nat.beq pc 244 then some (.if_icmp .eq 340, 3) else none) else (bif Nat.beq pc 241 then some (.invokevirtual 37, 3) else none)) else (bif Nat.beq pc 240 then some (.aload_n 2, 1) else none)) else (bif Nat.ble 236 pc then (bif Nat.ble 237 pc then (bif Nat.beq pc 237 then some (.invokevirtual 33, 3) else none) else (bif Nat.beq pc 236 then some (.aload_n 1, 1) else none)) else (bif Nat.beq pc 235 then some (.ireturn, 1) else none))) else (bif Nat.ble 228 pc then (bif Nat.ble 231 pc then (bif Nat.ble 234 pc then (bif Nat.beq pc 234 then some (.iconst 0, 1) else none) else (bif Nat.beq pc 231 then some (.if_icmp .eq 353, 3) else none)) else (bif Nat.beq pc 228 then some (.invokevirtual 32, 3) else none)) else (bif Nat.ble 226 pc then (bif Nat.ble 227 pc then (bif Nat.beq pc 227 then some (.iaload, 1) else none) else (bif Nat.beq pc 226 then some (.iadd, 1) else none)) else (bif Nat.beq pc 225 then some (.iconst 1, 1) else none)))) else (bif Nat.ble 217 pc then (bif Nat.ble 222 pc then (bif Nat.ble 223 pc then (bif Nat.ble 224 pc then (bif Nat.beq pc 224 then some (.iload_n 3, 1) else none) else (bif Nat.beq pc 223 then some (.aload_n 0, 1) else none)) else (bif Nat.beq pc 222 then some (.aload_n 2, 1) else none)) else (bif Nat.ble 218 pc then (bif Nat.ble 219 pc then (bif Nat.beq pc 219 then some (.invokevirtual 29, 3) else none) else (bif Nat.beq pc 218 then some (.iaload, 1) else none)) else (bif Nat.beq pc 217 then some (.iadd, 1) else none))) else (bif Nat.ble 214 pc then (bif Nat.ble 215 pc then (bif Nat.ble 216 pc then (bif Nat.beq pc 216 then some (.iconst 1, 1) else none) else (bif Nat.beq pc 215 then some (.iload_n 3, 1) else none)) else (bif Nat.beq pc 214 then some (.aload_n 0, 1) else none)) else (bif Nat.ble 213 pc then (bif Nat.beq pc 213 then some (.aload_n 1, 1) else none) else (bif Nat.beq pc 212 then some (.ireturn, 1) else none))))))) else (bif Nat.ble 146 pc then (bif Nat.ble 174 pc then (bif Nat.ble 194 pc then (bif Nat.ble 202 pc then (bif Nat.ble 205 pc then (bif Nat.ble 208 pc then (bif Nat.ble 211 pc then (bif Nat.beq pc 211 then some (.iconst 0, 1) else none) else (bif Nat.beq pc 208 then some (.if_icmp .eq 376, 3) else none)) else (bif Nat.beq pc 205 then some (.invokevirtual 28, 3) else none)) else (bif Nat.ble 203 pc then (bif Nat.ble 204 pc then (bif Nat.beq pc 204 then some (.iaload, 1) else none) else (bif Nat.beq pc 203 then some (.iadd, 1) else none)) else (bif Nat.beq pc 202 then some (.iconst 1, 1) else none))) else (bif Nat.ble 199 pc then (bif Nat.ble 200 pc then (bif Nat.ble 201 pc then (bif Nat.beq pc 201 then some (.iload_n 3, 1) else none) else (bif Nat.beq pc 200 then some (.aload_n 0, 1) else none)) else (bif Nat.beq pc 199 then some (.aload_n 2, 1) else none)) else (bif Nat.ble 195 pc then (bif Nat.ble 196 pc then (bif Nat.beq pc 196 then some (.invokevirtual 24, 3) else none) else (bif Nat.beq pc 195 then some (.iaload, 1) else none)) else (bif Nat.beq pc 194 then some (.iadd, 1) else none)))) else (bif Nat.ble 184 pc then (bif Nat.ble 191 pc then (bif Nat.ble 192 pc then (bif Nat.ble 193 pc then (bif Nat.beq pc 193 then some (.iconst 1, 1) else none) else (bif Nat.beq pc 192 then some (.iload_n 3, 1) else none)) else (bif Nat.beq pc 191 then some (.aload_n 0, 1) else none)) else (bif Nat.ble 187 pc then (bif Nat.ble 190 pc then (bif Nat.beq pc 190 then some (.aload_n 1, 1) else none) else (bif Nat.beq pc 187 then some (.goto 397, 3) else none)) else (bif Nat.beq pc 184 then some (.invokevirtual 23, 3) else none))) else (bif Nat.ble 179 pc then (bif Nat.ble 180 pc then (bif Nat.ble 183 pc then (bif Nat.beq pc 183 then some (.aload_n 2, 1) else none) else (bif Nat.beq pc 180 then some (.invokevirtual 20, 3) else none)) else (bif Nat.beq pc 179 then some (.aload_n 1, 1) else none)) else (bif Nat.ble 177 pc then (bif Nat.ble 178 pc then (bif Nat.beq pc 178 then some (.ireturn, 1) else none) else (bif Nat.beq pc 177 then some (.iconst 0, 1) else none)) else (bif Nat.beq pc 174 then some (.if_icmp .eq 410, 3) else none))))) else (bif Nat.ble 157 pc then (bif Nat.ble 164 pc then (bif Nat.ble 169 pc then (bif Nat.ble 170 pc then (bif Nat.ble 171 pc then (bif Nat.beq pc 171 then some (.invokevirtual 19, 3) else none) else (bif Nat.beq pc 170 then some (.lor, 1) else none)) else (bif Nat.beq pc 169 then some (.land, 1) else none)) else (bif Nat.ble 165 pc then (bif Nat.ble 166 pc then (bif Nat.beq pc 166 then some (.ldc2_w 13, 3) else none) else (bif Nat.beq pc 165 then some (.i2l, 1) else none)) else (bif Nat.beq pc 164 then some (.iaload, 1) else none))) else (bif Nat.ble 161 pc then (bif Nat.ble 162 pc then (bif Nat.ble 163 pc then (bif Nat.beq pc 163 then some (.iadd, 1) else none) else (bif Nat.beq pc 162 then some (.iconst 3, 1) else none)) else (bif Nat.beq pc 161 then some (.iload_n 3, 1) else none)) else (bif Nat.ble 159 pc then (bif Nat.ble 160 pc then (bif Nat.beq pc 160 then some (.aload_n 0, 1) else none) else (bif Nat.beq pc 159 then some (.lshl, 1) else none)) else (bif Nat.beq pc 157 then some (.bipush 32, 2) else none)))) else (bif Nat.ble 151 pc then (bif Nat.ble 154 pc then (bif Nat.ble 155 pc then (bif Nat.ble 156 pc then (bif Nat.beq pc 156 then some (.i2l, 1) else none) else (bif Nat.beq pc 155 then some (.iaload, 1) else none)) else (bif Nat.beq pc 154 then some (.iadd, 1) else none)) else (bif Nat.ble 152 pc then (bif Nat.ble 153 pc then (bif Nat.beq pc 153 then some (.iconst 2, 1) else none) else (bif Nat.beq pc 152 then some (.iload_n 3, 1) else none)) else (bif Nat.beq pc 151 then some (.aload_n 0, 1) else none))) else (bif Nat.ble 148 pc then (bif Nat.ble 149 pc then (bif Nat.ble 150 pc then (bif Nat.beq pc 150 then some (.iaload, 1) else none) else (bif Nat.beq pc 149 then some (.iadd, 1) else none)) else (bif Nat.beq pc 148 then some (.iconst 1, 1) else none)) else (bif Nat.ble 147 pc then (bif Nat.beq pc 147 then some (.iload_n 3, 1) else none) else (bif Nat.beq pc 146 then some (.aload_n 0, 1) else none)))))) else (bif Nat.ble 117 pc then (bif Nat.ble 130 pc then (bif Nat.ble 136 pc then (bif Nat.ble 141 pc then (bif Nat.ble 142 pc then (bif Nat.ble 145 pc then (bif Nat.beq pc 145 then some (.aload_n 2, 1) else none) else (bif Nat.beq pc 142 then some (.invokevirtual 15, 3) else none)) else (bif Nat.beq pc 141 then some (.lor, 1) else none)) else (bif Nat.ble 137 pc then (bif Nat.ble 140 pc then (bif Nat.beq pc 140 then some (.land, 1) else none) else (bif Nat.beq pc 137 then some (.ldc2_w 13, 3) else none)) else (bif Nat.beq pc 136 then some (.i2l, 1) else none))) else (bif Nat.ble 133 pc then (bif Nat.ble 134 pc then (bif Nat.ble 135 pc then (bif Nat.beq pc 135 then some (.iaload, 1) else none) else (bif Nat.beq pc 134 then some (.iadd, 1) else none)) else (bif Nat.beq pc 133 then some (.iconst 3, 1) else none)) else (bif Nat.ble 131 pc then (bif Nat.ble 132 pc then (bif Nat.beq pc 132 then some (.iload_n 3, 1) else none) else (bif Nat.beq pc 131 then some (.aload_n 0, 1) else none)) else (bif Nat.beq pc 130 then some (.lshl, 1) else none)))) else (bif Nat.ble 123 pc then (bif Nat.ble 126 pc then (bif Nat.ble 127 pc then (bif Nat.ble 128 pc then (bif Nat.beq pc 128 then some (.bipush 32, 2) else none) else (bif Nat.beq pc 127 then some (.i2l, 1) else none)) else (bif Nat.beq pc 126 then some (.iaload, 1) else none)) else (bif Nat.ble 124 pc then (bif Nat.ble 125 pc then (bif Nat.beq pc 125 then some (.iadd, 1) else none) else (bif Nat.beq pc 124 then some (.iconst 2, 1) else none)) else (bif Nat.beq pc 123 then some (.iload_n 3, 1) else none))) else (bif Nat.ble 120 pc then (bif Nat.ble 121 pc then (bif Nat.ble 122 pc then (bif Nat.beq pc 122 then some (.aload_n 0, 1) else none) else (bif Nat.beq pc 121 then some (.iaload, 1) else none)) else (bif Nat.beq pc 120 then some (.iadd, 1) else none)) else (bif Nat.ble 118 pc then (bif Nat.ble 119 pc then (bif Nat.beq pc 119 then some (.iconst 1, 1) else none) else (bif Nat.beq pc 118 then some (.iload_n 3, 1) else none)) else (bif Nat.beq pc 117 then some (.aload_n 0, 1) else none))))) else (bif Nat.ble 19 pc then (bif Nat.ble 27 pc then (bif Nat.ble 31 pc then (bif Nat.ble 32 pc then (bif Nat.ble 116 pc then (bif Nat.beq pc 116 then some (.aload_n 1, 1) else none) else (bif Nat.beq pc 32 then some (.tableswitch 552 0 16 #[84, 147, 158, 181, 204, 217, 250, 273, 306, 356, 380, 403, 426, 449, 472, 505, 529], 84) else none)) else (bif Nat.beq pc 31 then some (.iand, 1) else none)) else (bif Nat.ble 28 pc then (bif Nat.ble 29 pc then (bif Nat.beq pc 29 then some (.bipush 31, 2) else none) else (bif Nat.beq pc 28 then some (.iaload, 1) else none)) else (bif Nat.beq pc 27 then some (.iload_n 3, 1) else none))) else (bif Nat.ble 22 pc then (bif Nat.ble 23 pc then (bif Nat.ble 26 pc then (bif Nat.beq pc 26 then some (.aload_n 0, 1) else none) else (bif Nat.beq pc 23 then some (.if_icmp .gt 567, 3) else none)) else (bif Nat.beq pc 22 then some (.isub, 1) else none)) else (bif Nat.ble 20 pc then (bif Nat.ble 21 pc then (bif Nat.beq pc 21 then some (.iconst 4, 1) else none) else (bif Nat.beq pc 20 then some (.arraylength, 1) else none)) else (bif Nat.beq pc 19 then some (.aload_n 0, 1) else none)))) else (bif Nat.ble 11 pc then (bif Nat.ble 16 pc then (bif Nat.ble 17 pc then (bif Nat.ble 18 pc then (bif Nat.beq pc 18 then some (.iload_n 3, 1) else none) else (bif Nat.beq pc 17 then some (.istore_n 3, 1) else none)) else (bif Nat.beq pc 16 then some (.iconst 0, 1) else none)) else (bif Nat.ble 12 pc then (bif Nat.ble 15 pc then (bif Nat.beq pc 15 then some (.astore_n 2, 1) else none) else (bif Nat.beq pc 12 then some (.invokespecial 12, 3) else none)) else (bif Nat.beq pc 11 then some (.dup, 1) else none))) else (bif Nat.ble 4 pc then (bif Nat.ble 7 pc then (bif Nat.ble 8 pc then (bif Nat.beq pc 8 then some (.new 10, 3) else none) else (bif Nat.beq pc 7 then some (.astore_n 1, 1) else none)) else (bif Nat.beq pc 4 then some (.invokespecial 9, 3) else none)) else (bif Nat.ble 3 pc then (bif Nat.beq pc 3 then some (.dup, 1) else none) else (bif Nat.beq pc 0 then some (.new 7, 3) else none))))))))
theorem xlt_ok : ((List.range 592).all fun pc => match xlt pc with
  | none => true
  | some e => decide (decode code pc = .ok e)) = true := by decide +kernel
theorem xld {pc : Nat} {e : Jvm.ClassFile.Instr × Nat} (hl : pc < 592) (h : xlt pc = some e) : decode code pc = .ok e := by
  have := List.all_eq_true.mp xlt_ok pc (List.mem_range.mpr hl)
  rw [h] at this
  exact xm_dc this
abbrev xCF : String := "ModuleScanner$ClassFile"
/-- what is known all along the law -/
def xLC (p : Program) (s : State) (m : MethodId) (meth : Method) (c : Code) (b0 L : Nat) (xs : Nat → Int32) (G : xm_G) (D : va_G) : Prop :=
  lw_At p s m meth c b0 L xs ∧ va_K D xcl (xm_tys G xCF) s ∧ xm_N xNs xCF s ∧ G.2.2.2 = xkd
section LW
variable {p : Program} {l : Launch} {e : Env} {s : State} {m : MethodId} {below : List Frame} {meth : Method} {c : Code} {Q : State → Prop} {b0 L : Nat} {xs : Nat → Int32} {G : xm_G} {D : va_G} {M : xm_M} {H : Heap} {locs : List Loc} {cells slots pc : Nat} {ls : Array Slot} {rest : List Value}
theorem xl_good {a : Nat} (ha : a < 171) : GoodIn lw_tbl (xm_ws xyy xV xlg a) := by
  intro w hw
  have hl : w ∈ xlg := by
    rcases List.mem_cons.mp hw with h | h
    · rw [h]; exact xCW ha
    · exact h
  exact ⟨(List.mem_filter.mp hl).1, good_of_word (List.mem_filter.mp hl).2⟩
theorem xl_lg {w : Cond} (h : w ∈ xlg) : w ∈ lw_tbl := (List.mem_filter.mp h).1
theorem xl_callV (C0 : xLC p s m meth c b0 L xs G D) {a ix k : Nat} {As : List Value} {P0 : xm_R → Prop} (ha : a < 171) (hsk : xsk a = 0) (hnp : As.length = xnp a) (hfr : (xdp a).1 + 1 ≤ 12 ∧ 8 + (xnl a + 11) + (xdp a).2 ≤ 490) (hlink : Cond.methodLink R_law ix (xyy a) ∈ lw_tbl) (hM : xm_Ev xz a (.ref k :: As) M P0) (hk : xm_nth M.1 k = some (3, xco a)) (hcat : (rest.map fun v => v.category).sum ≤ 8) (hroom : cells + (xbu a).1 ≤ 600000 ∧ slots + (xbu a).2 ≤ 7302250) (hd : decode code pc = .ok (.invokevirtual ix, 3))
    (hP : va_P D xcl (xm_w s.heap.size G M) H) (hz : H.size = s.heap.size + M.1.length) (hS : va_S (fun q => s.heap.size ≤ q) s.heap H locs) (hls : ls.size = 4)
    (kk : ∀ (r : xm_R) (H1 : Heap) (locs1 : List Loc), P0 r → va_P D xcl (xm_w s.heap.size G r.2) H1 → H1.size = s.heap.size + r.2.1.length → va_S (fun q => s.heap.size ≤ q) s.heap H1 locs1 → W p l e room_1 s m #[Value.ref b0] below meth c H1 locs1 (cells + (xbu a).1) (slots + (xbu a).2) Q (F0 m (pc + 3) ls ((r.1.map (xm_v s.heap.size)).toList ++ rest))) :
    W p l e room_1 s m #[Value.ref b0] below meth c H locs cells slots Q (F0 m pc ls ((As.map (xm_v s.heap.size)).reverse ++ .ref (s.heap.size + k) :: rest)) := by
  obtain ⟨⟨hx, hb, hr, hml, hown, hts, hX, hbl, hlk, hgv⟩, hK, hN, hG⟩ := C0
  obtain ⟨w1, w2, w3, w4, w5, w6, w7, w8⟩ := xMW ha
  obtain ⟨v1, v2, C, T, N, v3⟩ := w6 hsk
  obtain ⟨hl9, hC, hT, hN9⟩ := xcl_of v3
  have hC : (xyy a).cls = C := by rw [hC, ← w1]
  subst hC
  have hNs : ∀ w ∈ xNs, xm_isN w = true := fun w h => (List.mem_filter.mp h).2
  refine xm_cl (rest := rest) (va_runV (As := As.map (xm_v s.heap.size)) (b := s.heap.size + k) (C := (xyy a).cls) (own := R_law) (Ts := lw_tbl) ⟨hx, hb, hml, hown, hts⟩ (xsound (G := G) (D := D) hG hM) ⟨callB_of (n := xnp a) (ws' := xlg) hts (xl_good ha) rfl rfl rfl (hts _ (xl_lg w4)) (hts _ hlink) w5 ⟨hfr.1, hfr.2⟩, hts _ (xl_lg v1), hts _ (xl_lg v2)⟩ ⟨xm_blind hNs, va_recv hK hP v3 (xm_w_at hk), fun U hU hW => ⟨rfl, ⟨by rw [hU]; exact hP, by rw [hU]; exact hz⟩, va_K.moved hW.alike hK, hN.warm hNs hW, by rw [hU]; exact hS.1⟩⟩ rfl (by rw [List.length_map]; exact hnp) hls rfl (lv_room hcat) hd ⟨hroom.1, hroom.2⟩) hS fun r H1 locs1 hp hP1 hz1 hS1 => kk r H1 locs1 hp hP1 hz1 hS1
theorem xl_callI (C0 : xLC p s m meth c b0 L xs G D) {a ix k : Nat} {P0 : xm_R → Prop} (ha : a < 171) (hsk : xsk a = 2) (hnp : 0 = xnp a) (hfr : (xdp a).1 + 1 ≤ 12 ∧ 8 + (xnl a + 11) + (xdp a).2 ≤ 490) (hlink : Cond.methodLink R_law ix (xyy a) ∈ lw_tbl) (hM : xm_Ev xz a [.ref k] M P0) (hcat : (rest.map fun v => v.category).sum ≤ 8) (hroom : cells + (xbu a).1 ≤ 600000 ∧ slots + (xbu a).2 ≤ 7302250) (hd : decode code pc = .ok (.invokespecial ix, 3))
    (hP : va_P D xcl (xm_w s.heap.size G M) H) (hz : H.size = s.heap.size + M.1.length) (hS : va_S (fun q => s.heap.size ≤ q) s.heap H locs) (hls : ls.size = 4)
    (kk : ∀ (r : xm_R) (H1 : Heap) (locs1 : List Loc), P0 r → va_P D xcl (xm_w s.heap.size G r.2) H1 → H1.size = s.heap.size + r.2.1.length → va_S (fun q => s.heap.size ≤ q) s.heap H1 locs1 → W p l e room_1 s m #[Value.ref b0] below meth c H1 locs1 (cells + (xbu a).1) (slots + (xbu a).2) Q (F0 m (pc + 3) ls ((r.1.map (xm_v s.heap.size)).toList ++ rest))) :
    W p l e room_1 s m #[Value.ref b0] below meth c H locs cells slots Q (F0 m pc ls (.ref (s.heap.size + k) :: rest)) := by
  obtain ⟨⟨hx, hb, hr, hml, hown, hts, hX, hbl, hlk, hgv⟩, hK, hN, hG⟩ := C0
  obtain ⟨w1, w2, w3, w4, w5, w6, w7, w8⟩ := xMW ha
  obtain ⟨v1, v2, v3⟩ := w8 hsk
  have hws : xm_ws xyy xV xlg a = Cond.code (xyy a) (xV.1 a) (xV.2.2.1 a) none :: xlg := by rw [← v3]; rfl
  have hNs : ∀ w ∈ xNs, xm_isN w = true := fun w h => (List.mem_filter.mp h).2
  exact xm_cl (rest := rest) (va_runI (As := []) (b := s.heap.size + k) (own := R_law) (Ts := lw_tbl) ⟨hx, hb, hml, hown, hts⟩ (xsound (G := G) (D := D) hG hM) ⟨callB_of (n := xnp a) (ws' := xlg) hts (xl_good ha) hws rfl rfl (hts _ (xl_lg w4)) (hts _ hlink) w5 ⟨hfr.1, hfr.2⟩, v1, hts _ (xl_lg v2)⟩ ⟨xm_blind hNs, fun U hU hW => ⟨rfl, ⟨by rw [hU]; exact hP, by rw [hU]; exact hz⟩, va_K.moved hW.alike hK, hN.warm hNs hW, by rw [hU]; exact hS.1⟩⟩ rfl hnp hls rfl (lv_room hcat) hd ⟨hroom.1, hroom.2⟩) hS kk
theorem xl_new (C0 : xLC p s m meth c b0 L xs G D) {ci ix : Nat} (hci : ci < 9) (hclink : Cond.classLink R_law ix (xnm ci) ∈ lw_tbl) (hinst : Cond.instantiable (xnm ci) (xN ci) ∈ lw_tbl) (hini : Cond.initialized (xnm ci) ∈ lw_tbl) (hroom : cells + 1 ≤ 600000 ∧ slots + xN ci ≤ 7302250) (hd : decode code pc = .ok (.new ix, 3))
    (hP : va_P D xcl (xm_w s.heap.size G M) H) (hz : H.size = s.heap.size + M.1.length) (hS : va_S (fun q => s.heap.size ≤ q) s.heap H locs)
    (kk : ∀ H1 : Heap, va_P D xcl (xm_w s.heap.size G (M.1 ++ [(3, ci)], xm_row M.2.1 M.1.length 0, xm_row M.2.2.1 M.1.length 0, xm_row M.2.2.2 M.1.length 0)) H1 → H1.size = s.heap.size + (M.1 ++ [(3, ci)]).length → va_S (fun q => s.heap.size ≤ q) s.heap H1 locs → W p l e room_1 s m #[Value.ref b0] below meth c H1 locs (cells + 1) (slots + xN ci) Q (F0 m (pc + 3) ls (.ref (s.heap.size + M.1.length) :: rest))) :
    W p l e room_1 s m #[Value.ref b0] below meth c H locs cells slots Q (F0 m pc ls rest) := by
  obtain ⟨⟨hx, hb, hr, hml, hown, hts, hX, hbl, hlk, hgv⟩, hK, hN, hG⟩ := C0
  obtain ⟨hgw, hNs, hAI, hAL, hcls, -⟩ := xLK
  have hc0 := xcl_at hci
  obtain ⟨g1, g2, g3, g4, g5, g6, g7⟩ := hcls _ _ _ _ hc0
  have hKn := hK.1 ci _ hc0
  refine W.newcK hx hb hown (hts _ hclink) (hts _ hinst) (hts _ hini) rfl hd hroom.1 hroom.2 hKn.2.1 rfl fun H1 kC hkC e1 z1 o1 => ?_
  have hP1 : va_P D xcl (xm_w s.heap.size G (M.1 ++ [(3, ci)], xm_row M.2.1 M.1.length 0, xm_row M.2.2.1 M.1.length 0, xm_row M.2.2.2 M.1.length 0)) H1 := by
    refine xs_grow hP hz rfl (fun i sh' hi => xm_e_same (xm_row_ne (by omega)) (xm_row_ne (by omega)) (xm_row_ne (by omega))) ?_ o1
    refine ⟨_, hc0, (u_born (xtyf ci) hts (fun w hw => xl_lg (g2 w hw)) hKn hkC e1 g3).to (fun j hj => ?_)⟩
    obtain ⟨t, f1, f2, -⟩ := g5 j hj
    have h2 : defaultValue (xtyf ci j) = xm_zero t := by
      match t, f2 with
      | 0, f2 => rw [show xtyf ci j = .int from f2]; rfl
      | 1, f2 => rw [show xtyf ci j = .long from f2]; rfl
      | 2, f2 => rcases f2 with ⟨n, f2⟩ | ⟨z, f2⟩ <;> rw [f2] <;> rfl
      | n + 3, f2 => rw [show xtyf ci j = .boolean from f2]; rfl
    have h1 : (G.2.2.2 ci)[j]? = some t := by rw [hG]; exact f1
    rw [h2]
    show xm_zero t = ((G.2.2.2 ci).mapIdx (fun j t => xm_fv s.heap.size (M.1 ++ [(3, ci)], xm_row M.2.1 M.1.length 0, xm_row M.2.2.1 M.1.length 0, xm_row M.2.2.2 M.1.length 0) M.1.length j t)).getD j .null
    rw [List.getD_eq_getElem?_getD, List.getElem?_mapIdx, h1]
    simp only [Option.map_some, Option.getD_some]
    unfold xm_fv xm_zero
    simp only [xm_row_self]
    rcases t with _ | _ | _ | t <;> rfl
  have := kk H1 hP1 (by rw [z1, hz]; simp; omega) ⟨Nat.le_trans hS.1 (by omega), fun x h1 h2 => (o1 x (Nat.lt_of_lt_of_le h1 hS.1)).trans (hS.2.1 x h1 h2), hS.2.2⟩
  rw [hz]
  exact this
end LW
/-- a call of the scanner and the same call of the reference: the same answer, and the invariant behind them -/
def xOpI (Inv : (Nat → Nat → Int32) → (Nat → Nat → Int64) → (Nat → Nat) → Prop) (a ma : Nat) (as : List Value) : Prop := ∀ MI ML Q, Inv MI ML Q → xm_Ev xz a (.ref 0 :: as) (xSH, MI, ML, xmr Q) (fun r => ∃ x MI' ML' Q', r = (some (.int x), (xSH, MI', ML', xmr Q')) ∧ xm_Ev xz ma (.ref 45 :: as) (xSH, MI', ML', xmr Q') (fun r2 => ∃ MI'' ML'' Q'', r2 = (some (.int x), (xSH, MI'', ML'', xmr Q'')) ∧ Inv MI'' ML'' Q''))
def xOpL (Inv : (Nat → Nat → Int32) → (Nat → Nat → Int64) → (Nat → Nat) → Prop) (a ma : Nat) (as : List Value) : Prop := ∀ MI ML Q, Inv MI ML Q → xm_Ev xz a (.ref 0 :: as) (xSH, MI, ML, xmr Q) (fun r => ∃ x MI' ML' Q', r = (some (.long x), (xSH, MI', ML', xmr Q')) ∧ xm_Ev xz ma (.ref 45 :: as) (xSH, MI', ML', xmr Q') (fun r2 => ∃ MI'' ML'' Q'', r2 = (some (.long x), (xSH, MI'', ML'', xmr Q'')) ∧ Inv MI'' ML'' Q''))
def xOpV (Inv : (Nat → Nat → Int32) → (Nat → Nat → Int64) → (Nat → Nat) → Prop) (a ma : Nat) (as : List Value) : Prop := ∀ MI ML Q, Inv MI ML Q → xm_Ev xz a (.ref 0 :: as) (xSH, MI, ML, xmr Q) (fun r => ∃ MI' ML' Q', r = (none, (xSH, MI', ML', xmr Q')) ∧ xm_Ev xz ma (.ref 45 :: as) (xSH, MI', ML', xmr Q') (fun r2 => ∃ MI'' ML'' Q'', r2 = (none, (xSH, MI'', ML'', xmr Q'')) ∧ Inv MI'' ML'' Q''))
theorem xlw_0 : Cond.methodLink R_law 9 (xyy 0) ∈ lw_tbl := List.mem_of_getElem? (i := 87) (by decide +kernel)
theorem xlw_9 : Cond.methodLink R_law 15 (xyy 9) ∈ lw_tbl := List.mem_of_getElem? (i := 331) (by decide +kernel)
theorem xlw_11 : Cond.methodLink R_law 20 (xyy 11) ∈ lw_tbl := List.mem_of_getElem? (i := 339) (by decide +kernel)
theorem xlw_13 : Cond.methodLink R_law 24 (xyy 13) ∈ lw_tbl := List.mem_of_getElem? (i := 347) (by decide +kernel)
theorem xlw_81 : Cond.methodLink R_law 29 (xyy 81) ∈ lw_tbl := List.mem_of_getElem? (i := 635) (by decide +kernel)
theorem xlw_83 : Cond.methodLink R_law 33 (xyy 83) ∈ lw_tbl := List.mem_of_getElem? (i := 643) (by decide +kernel)
theorem xlw_84 : Cond.methodLink R_law 38 (xyy 84) ∈ lw_tbl := List.mem_of_getElem? (i := 647) (by decide +kernel)
theorem xlw_87 : Cond.methodLink R_law 43 (xyy 87) ∈ lw_tbl := List.mem_of_getElem? (i := 659) (by decide +kernel)
theorem xlw_88 : Cond.methodLink R_law 47 (xyy 88) ∈ lw_tbl := List.mem_of_getElem? (i := 664) (by decide +kernel)
theorem xlw_90 : Cond.methodLink R_law 51 (xyy 90) ∈ lw_tbl := List.mem_of_getElem? (i := 672) (by decide +kernel)
theorem xlw_91 : Cond.methodLink R_law 56 (xyy 91) ∈ lw_tbl := List.mem_of_getElem? (i := 676) (by decide +kernel)
theorem xlw_92 : Cond.methodLink R_law 61 (xyy 92) ∈ lw_tbl := List.mem_of_getElem? (i := 681) (by decide +kernel)
theorem xlw_95 : Cond.methodLink R_law 65 (xyy 95) ∈ lw_tbl := List.mem_of_getElem? (i := 692) (by decide +kernel)
theorem xlw_96 : Cond.methodLink R_law 69 (xyy 96) ∈ lw_tbl := List.mem_of_getElem? (i := 696) (by decide +kernel)
theorem xlw_98 : Cond.methodLink R_law 73 (xyy 98) ∈ lw_tbl := List.mem_of_getElem? (i := 704) (by decide +kernel)
theorem xlw_100 : Cond.methodLink R_law 77 (xyy 100) ∈ lw_tbl := List.mem_of_getElem? (i := 712) (by decide +kernel)
theorem xlw_103 : Cond.methodLink R_law 81 (xyy 103) ∈ lw_tbl := List.mem_of_getElem? (i := 724) (by decide +kernel)
theorem xlw_105 : Cond.methodLink R_law 85 (xyy 105) ∈ lw_tbl := List.mem_of_getElem? (i := 733) (by decide +kernel)
theorem xlw_8 : Cond.methodLink R_law 12 (xyy 8) ∈ lw_tbl := List.mem_of_getElem? (i := 775) (by decide +kernel)
theorem xlw_114 : Cond.methodLink R_law 19 (xyy 114) ∈ lw_tbl := List.mem_of_getElem? (i := 888) (by decide +kernel)
theorem xlw_115 : Cond.methodLink R_law 23 (xyy 115) ∈ lw_tbl := List.mem_of_getElem? (i := 893) (by decide +kernel)
theorem xlw_116 : Cond.methodLink R_law 28 (xyy 116) ∈ lw_tbl := List.mem_of_getElem? (i := 897) (by decide +kernel)
theorem xlw_145 : Cond.methodLink R_law 32 (xyy 145) ∈ lw_tbl := List.mem_of_getElem? (i := 1012) (by decide +kernel)
theorem xlw_146 : Cond.methodLink R_law 37 (xyy 146) ∈ lw_tbl := List.mem_of_getElem? (i := 1016) (by decide +kernel)
theorem xlw_147 : Cond.methodLink R_law 42 (xyy 147) ∈ lw_tbl := List.mem_of_getElem? (i := 1020) (by decide +kernel)
theorem xlw_149 : Cond.methodLink R_law 46 (xyy 149) ∈ lw_tbl := List.mem_of_getElem? (i := 1028) (by decide +kernel)
theorem xlw_151 : Cond.methodLink R_law 50 (xyy 151) ∈ lw_tbl := List.mem_of_getElem? (i := 1036) (by decide +kernel)
theorem xlw_152 : Cond.methodLink R_law 55 (xyy 152) ∈ lw_tbl := List.mem_of_getElem? (i := 1040) (by decide +kernel)
theorem xlw_153 : Cond.methodLink R_law 60 (xyy 153) ∈ lw_tbl := List.mem_of_getElem? (i := 1044) (by decide +kernel)
theorem xlw_156 : Cond.methodLink R_law 64 (xyy 156) ∈ lw_tbl := List.mem_of_getElem? (i := 1055) (by decide +kernel)
theorem xlw_158 : Cond.methodLink R_law 68 (xyy 158) ∈ lw_tbl := List.mem_of_getElem? (i := 1063) (by decide +kernel)
theorem xlw_160 : Cond.methodLink R_law 72 (xyy 160) ∈ lw_tbl := List.mem_of_getElem? (i := 1071) (by decide +kernel)
theorem xlw_163 : Cond.methodLink R_law 76 (xyy 163) ∈ lw_tbl := List.mem_of_getElem? (i := 1083) (by decide +kernel)
theorem xlw_164 : Cond.methodLink R_law 80 (xyy 164) ∈ lw_tbl := List.mem_of_getElem? (i := 1087) (by decide +kernel)
theorem xlw_167 : Cond.methodLink R_law 84 (xyy 167) ∈ lw_tbl := List.mem_of_getElem? (i := 1099) (by decide +kernel)
theorem xlw_168 : Cond.methodLink R_law 88 (xyy 168) ∈ lw_tbl := List.mem_of_getElem? (i := 1104) (by decide +kernel)
theorem xlc_0 : Cond.classLink R_law 7 (xnm 0) ∈ lw_tbl ∧ Cond.instantiable (xnm 0) (xN 0) ∈ lw_tbl ∧ Cond.initialized (xnm 0) ∈ lw_tbl := ⟨List.mem_of_getElem? (i := 85) (by decide +kernel), List.mem_of_getElem? (i := 86) (by decide +kernel), List.mem_of_getElem? (i := 72) (by decide +kernel)⟩
theorem xlc_8 : Cond.classLink R_law 10 (xnm 8) ∈ lw_tbl ∧ Cond.instantiable (xnm 8) (xN 8) ∈ lw_tbl ∧ Cond.initialized (xnm 8) ∈ lw_tbl := ⟨List.mem_of_getElem? (i := 773) (by decide +kernel), List.mem_of_getElem? (i := 774) (by decide +kernel), List.mem_of_getElem? (i := 80) (by decide +kernel)⟩
theorem xlw_k : Jvm.Cond.constantLong R_law 13 4294967295 ∈ lw_tbl := List.mem_of_getElem? (i := 1117) (by decide +kernel)
section LC
variable {p : Program} {l : Launch} {e : Env} {s : State} {m : MethodId} {below : List Frame} {meth : Method} {c : Code} {Q : State → Prop} {b0 L : Nat} {xs : Nat → Int32} {G : xm_G} {D : va_G} {H : Heap} {locs : List Loc} {ls : Array Slot}
set_option maxHeartbeats 2000000 in
theorem lc0 (C0 : xLC p s m meth c b0 L xs G D) (hL : L ≤ 2048) {Inv : (Nat → Nat → Int32) → (Nat → Nat → Int64) → (Nat → Nat) → Prop} {k : Nat} (hk : k + 4 ≤ L) {MI : Nat → Nat → Int32} {ML : Nat → Nat → Int64} {Qf : Nat → Nat} (hI : Inv MI ML Qf) (hP : va_P D xcl (xm_w s.heap.size G (xSH, MI, ML, xmr Qf)) H) (hz : H.size = s.heap.size + 68) (hS : va_S (fun q => s.heap.size ≤ q) s.heap H locs) (hl : lv_has ls 4 [(0, .ref b0), (1, .ref (s.heap.size + 0)), (2, .ref (s.heap.size + 45)), (3, .int (nI k))])
    (kk : ∀ (MI : Nat → Nat → Int32) (ML : Nat → Nat → Int64) (Qf : Nat → Nat) (H : Heap) (locs : List Loc), Inv MI ML Qf → va_P D xcl (xm_w s.heap.size G (xSH, MI, ML, xmr Qf)) H → H.size = s.heap.size + 68 → va_S (fun q => s.heap.size ≤ q) s.heap H locs → W p l e room_1 s m #[Value.ref b0] below meth c H locs 68 4200 Q (F0 m 584 ls [])) (hop : xOpI Inv 9 114 [.int (xs (Int32.toNatClampNeg (nI k + 1))), .long (((Int32.toInt64 (xs (Int32.toNatClampNeg (nI k + 2)))) <<< (Int32.toInt64 (32 : Int32) &&& (63 : Int64))) ||| ((Int32.toInt64 (xs (Int32.toNatClampNeg (nI k + 3)))) &&& (4294967295 : Int64)))]) : W p l e room_1 s m #[Value.ref b0] below meth c H locs 68 4200 Q (F0 m 116 ls []) := by
  obtain ⟨hx, hb, hr, hml, hown, hts, hX, hbl, hlk, hgv⟩ := C0.1
  have hbA : ¬ (s.heap.size ≤ b0) := by omega
  have v1 : vp_in (nI k + 1) L := by rw [nI_1]; exact vp_in_nI (by omega) (by omega)
  have v2 : vp_in (nI k + 2) L := by rw [show (2 : Int32) = nI 2 from rfl, nI_add]; exact vp_in_nI (by omega) (by omega)
  have v3 : vp_in (nI k + 3) L := by rw [show (3 : Int32) = nI 3 from rfl, nI_add]; exact vp_in_nI (by omega) (by omega)
  refine lv_aload_n hx hb (xld (by decide) rfl) rfl (lv_at hl 1 rfl) ?_
  refine lv_aload_n hx hb (xld (by decide) rfl) rfl (lv_at hl 0 rfl) ?_
  refine lv_iload_n hx hb (xld (by decide) rfl) rfl (lv_at hl 3 rfl) ?_
  refine lv_iconst (v := 1) hx hb (xld (by decide) rfl) rfl ?_
  refine lv_iadd hx hb (xld (by decide) rfl) ?_
  refine va_sld hx hb hX hbl hbA hS (by first | exact v1 | exact v2 | exact v3) (xld (by decide) rfl) ?_
  refine lv_aload_n hx hb (xld (by decide) rfl) rfl (lv_at hl 0 rfl) ?_
  refine lv_iload_n hx hb (xld (by decide) rfl) rfl (lv_at hl 3 rfl) ?_
  refine lv_iconst (v := 2) hx hb (xld (by decide) rfl) rfl ?_
  refine lv_iadd hx hb (xld (by decide) rfl) ?_
  refine va_sld hx hb hX hbl hbA hS (by first | exact v1 | exact v2 | exact v3) (xld (by decide) rfl) ?_
  refine lv_i2l hx hb (xld (by decide) rfl) rfl ?_
  refine lv_bipush (v := 32) hx hb (xld (by decide) rfl) rfl ?_
  refine lv_lshl hx hb (xld (by decide) rfl) rfl ?_
  refine lv_aload_n hx hb (xld (by decide) rfl) rfl (lv_at hl 0 rfl) ?_
  refine lv_iload_n hx hb (xld (by decide) rfl) rfl (lv_at hl 3 rfl) ?_
  refine lv_iconst (v := 3) hx hb (xld (by decide) rfl) rfl ?_
  refine lv_iadd hx hb (xld (by decide) rfl) ?_
  refine va_sld hx hb hX hbl hbA hS (by first | exact v1 | exact v2 | exact v3) (xld (by decide) rfl) ?_
  refine lv_i2l hx hb (xld (by decide) rfl) rfl ?_
  refine lv_ldc2 (v := 4294967295) hx hb hown (hts _ xlw_k) (xld (by decide) rfl) ?_
  refine lv_land hx hb (xld (by decide) rfl) ?_
  refine lv_lor hx hb (xld (by decide) rfl) ?_
  refine xl_callV (a := 9) (ix := 15) (k := 0) (As := [.int (xs (Int32.toNatClampNeg (nI k + 1))), .long (((Int32.toInt64 (xs (Int32.toNatClampNeg (nI k + 2)))) <<< (Int32.toInt64 (32 : Int32) &&& (63 : Int64))) ||| ((Int32.toInt64 (xs (Int32.toNatClampNeg (nI k + 3)))) &&& (4294967295 : Int64)))]) (M := (xSH, MI, ML, xmr Qf)) (rest := []) C0 (by decide) rfl rfl (by decide) xlw_9 (hop MI ML Qf hI) rfl (Nat.le_of_ble_eq_true rfl) (by decide) (xld (by decide) rfl) hP hz hS hl.1 ?_
  rintro _ H locs ⟨x, MI, ML, Qf, rfl, hop2⟩ hP hz hS
  refine lv_aload_n hx hb (xld (by decide) rfl) rfl (lv_at hl 2 rfl) ?_
  refine lv_aload_n hx hb (xld (by decide) rfl) rfl (lv_at hl 0 rfl) ?_
  refine lv_iload_n hx hb (xld (by decide) rfl) rfl (lv_at hl 3 rfl) ?_
  refine lv_iconst (v := 1) hx hb (xld (by decide) rfl) rfl ?_
  refine lv_iadd hx hb (xld (by decide) rfl) ?_
  refine va_sld hx hb hX hbl hbA hS (by first | exact v1 | exact v2 | exact v3) (xld (by decide) rfl) ?_
  refine lv_aload_n hx hb (xld (by decide) rfl) rfl (lv_at hl 0 rfl) ?_
  refine lv_iload_n hx hb (xld (by decide) rfl) rfl (lv_at hl 3 rfl) ?_
  refine lv_iconst (v := 2) hx hb (xld (by decide) rfl) rfl ?_
  refine lv_iadd hx hb (xld (by decide) rfl) ?_
  refine va_sld hx hb hX hbl hbA hS (by first | exact v1 | exact v2 | exact v3) (xld (by decide) rfl) ?_
  refine lv_i2l hx hb (xld (by decide) rfl) rfl ?_
  refine lv_bipush (v := 32) hx hb (xld (by decide) rfl) rfl ?_
  refine lv_lshl hx hb (xld (by decide) rfl) rfl ?_
  refine lv_aload_n hx hb (xld (by decide) rfl) rfl (lv_at hl 0 rfl) ?_
  refine lv_iload_n hx hb (xld (by decide) rfl) rfl (lv_at hl 3 rfl) ?_
  refine lv_iconst (v := 3) hx hb (xld (by decide) rfl) rfl ?_
  refine lv_iadd hx hb (xld (by decide) rfl) ?_
  refine va_sld hx hb hX hbl hbA hS (by first | exact v1 | exact v2 | exact v3) (xld (by decide) rfl) ?_
  refine lv_i2l hx hb (xld (by decide) rfl) rfl ?_
  refine lv_ldc2 (v := 4294967295) hx hb hown (hts _ xlw_k) (xld (by decide) rfl) ?_
  refine lv_land hx hb (xld (by decide) rfl) ?_
  refine lv_lor hx hb (xld (by decide) rfl) ?_
  refine xl_callV (a := 114) (ix := 19) (k := 45) (As := [.int (xs (Int32.toNatClampNeg (nI k + 1))), .long (((Int32.toInt64 (xs (Int32.toNatClampNeg (nI k + 2)))) <<< (Int32.toInt64 (32 : Int32) &&& (63 : Int64))) ||| ((Int32.toInt64 (xs (Int32.toNatClampNeg (nI k + 3)))) &&& (4294967295 : Int64)))]) (M := (xSH, MI, ML, xmr Qf)) (rest := [.int x]) C0 (by decide) rfl rfl (by decide) xlw_114 hop2 rfl (Nat.le_of_ble_eq_true rfl) (by decide) (xld (by decide) rfl) hP hz hS hl.1 ?_
  rintro _ H locs ⟨MI, ML, Qf, rfl, hI⟩ hP hz hS
  refine lv_icmp_eq hx hb (xld (by decide) rfl) (tgt := 584) rfl (fun _ => ?_) (fun h => absurd rfl h)
  exact kk MI ML Qf H locs hI hP hz hS
set_option maxHeartbeats 2000000 in
theorem lc1 (C0 : xLC p s m meth c b0 L xs G D) (hL : L ≤ 2048) {Inv : (Nat → Nat → Int32) → (Nat → Nat → Int64) → (Nat → Nat) → Prop} {k : Nat} (hk : k + 4 ≤ L) {MI : Nat → Nat → Int32} {ML : Nat → Nat → Int64} {Qf : Nat → Nat} (hI : Inv MI ML Qf) (hP : va_P D xcl (xm_w s.heap.size G (xSH, MI, ML, xmr Qf)) H) (hz : H.size = s.heap.size + 68) (hS : va_S (fun q => s.heap.size ≤ q) s.heap H locs) (hl : lv_has ls 4 [(0, .ref b0), (1, .ref (s.heap.size + 0)), (2, .ref (s.heap.size + 45)), (3, .int (nI k))])
    (kk : ∀ (MI : Nat → Nat → Int32) (ML : Nat → Nat → Int64) (Qf : Nat → Nat) (H : Heap) (locs : List Loc), Inv MI ML Qf → va_P D xcl (xm_w s.heap.size G (xSH, MI, ML, xmr Qf)) H → H.size = s.heap.size + 68 → va_S (fun q => s.heap.size ≤ q) s.heap H locs → W p l e room_1 s m #[Value.ref b0] below meth c H locs 68 4200 Q (F0 m 584 ls [])) (hop : xOpV Inv 11 115 []) : W p l e room_1 s m #[Value.ref b0] below meth c H locs 68 4200 Q (F0 m 179 ls []) := by
  obtain ⟨hx, hb, hr, hml, hown, hts, hX, hbl, hlk, hgv⟩ := C0.1
  have hbA : ¬ (s.heap.size ≤ b0) := by omega
  have v1 : vp_in (nI k + 1) L := by rw [nI_1]; exact vp_in_nI (by omega) (by omega)
  have v2 : vp_in (nI k + 2) L := by rw [show (2 : Int32) = nI 2 from rfl, nI_add]; exact vp_in_nI (by omega) (by omega)
  have v3 : vp_in (nI k + 3) L := by rw [show (3 : Int32) = nI 3 from rfl, nI_add]; exact vp_in_nI (by omega) (by omega)
  refine lv_aload_n hx hb (xld (by decide) rfl) rfl (lv_at hl 1 rfl) ?_
  refine xl_callV (a := 11) (ix := 20) (k := 0) (As := []) (M := (xSH, MI, ML, xmr Qf)) (rest := []) C0 (by decide) rfl rfl (by decide) xlw_11 (hop MI ML Qf hI) rfl (Nat.le_of_ble_eq_true rfl) (by decide) (xld (by decide) rfl) hP hz hS hl.1 ?_
  rintro _ H locs ⟨MI, ML, Qf, rfl, hop2⟩ hP hz hS
  refine lv_aload_n hx hb (xld (by decide) rfl) rfl (lv_at hl 2 rfl) ?_
  refine xl_callV (a := 115) (ix := 23) (k := 45) (As := []) (M := (xSH, MI, ML, xmr Qf)) (rest := []) C0 (by decide) rfl rfl (by decide) xlw_115 hop2 rfl (Nat.le_of_ble_eq_true rfl) (by decide) (xld (by decide) rfl) hP hz hS hl.1 ?_
  rintro _ H locs ⟨MI, ML, Qf, rfl, hI⟩ hP hz hS
  refine lv_goto hx hb (xld (by decide) rfl) (tgt := 584) rfl ?_
  exact kk MI ML Qf H locs hI hP hz hS
set_option maxHeartbeats 2000000 in
theorem lc2 (C0 : xLC p s m meth c b0 L xs G D) (hL : L ≤ 2048) {Inv : (Nat → Nat → Int32) → (Nat → Nat → Int64) → (Nat → Nat) → Prop} {k : Nat} (hk : k + 4 ≤ L) {MI : Nat → Nat → Int32} {ML : Nat → Nat → Int64} {Qf : Nat → Nat} (hI : Inv MI ML Qf) (hP : va_P D xcl (xm_w s.heap.size G (xSH, MI, ML, xmr Qf)) H) (hz : H.size = s.heap.size + 68) (hS : va_S (fun q => s.heap.size ≤ q) s.heap H locs) (hl : lv_has ls 4 [(0, .ref b0), (1, .ref (s.heap.size + 0)), (2, .ref (s.heap.size + 45)), (3, .int (nI k))])
    (kk : ∀ (MI : Nat → Nat → Int32) (ML : Nat → Nat → Int64) (Qf : Nat → Nat) (H : Heap) (locs : List Loc), Inv MI ML Qf → va_P D xcl (xm_w s.heap.size G (xSH, MI, ML, xmr Qf)) H → H.size = s.heap.size + 68 → va_S (fun q => s.heap.size ≤ q) s.heap H locs → W p l e room_1 s m #[Value.ref b0] below meth c H locs 68 4200 Q (F0 m 584 ls [])) (hop : xOpI Inv 13 116 [.int (xs (Int32.toNatClampNeg (nI k + 1)))]) : W p l e room_1 s m #[Value.ref b0] below meth c H locs 68 4200 Q (F0 m 190 ls []) := by
  obtain ⟨hx, hb, hr, hml, hown, hts, hX, hbl, hlk, hgv⟩ := C0.1
  have hbA : ¬ (s.heap.size ≤ b0) := by omega
  have v1 : vp_in (nI k + 1) L := by rw [nI_1]; exact vp_in_nI (by omega) (by omega)
  have v2 : vp_in (nI k + 2) L := by rw [show (2 : Int32) = nI 2 from rfl, nI_add]; exact vp_in_nI (by omega) (by omega)
  have v3 : vp_in (nI k + 3) L := by rw [show (3 : Int32) = nI 3 from rfl, nI_add]; exact vp_in_nI (by omega) (by omega)
  refine lv_aload_n hx hb (xld (by decide) rfl) rfl (lv_at hl 1 rfl) ?_
  refine lv_aload_n hx hb (xld (by decide) rfl) rfl (lv_at hl 0 rfl) ?_
  refine lv_iload_n hx hb (xld (by decide) rfl) rfl (lv_at hl 3 rfl) ?_
  refine lv_iconst (v := 1) hx hb (xld (by decide) rfl) rfl ?_
  refine lv_iadd hx hb (xld (by decide) rfl) ?_
  refine va_sld hx hb hX hbl hbA hS (by first | exact v1 | exact v2 | exact v3) (xld (by decide) rfl) ?_
  refine xl_callV (a := 13) (ix := 24) (k := 0) (As := [.int (xs (Int32.toNatClampNeg (nI k + 1)))]) (M := (xSH, MI, ML, xmr Qf)) (rest := []) C0 (by decide) rfl rfl (by decide) xlw_13 (hop MI ML Qf hI) rfl (Nat.le_of_ble_eq_true rfl) (by decide) (xld (by decide) rfl) hP hz hS hl.1 ?_
  rintro _ H locs ⟨x, MI, ML, Qf, rfl, hop2⟩ hP hz hS
  refine lv_aload_n hx hb (xld (by decide) rfl) rfl (lv_at hl 2 rfl) ?_
  refine lv_aload_n hx hb (xld (by decide) rfl) rfl (lv_at hl 0 rfl) ?_
  refine lv_iload_n hx hb (xld (by decide) rfl) rfl (lv_at hl 3 rfl) ?_
  refine lv_iconst (v := 1) hx hb (xld (by decide) rfl) rfl ?_
  refine lv_iadd hx hb (xld (by decide) rfl) ?_
  refine va_sld hx hb hX hbl hbA hS (by first | exact v1 | exact v2 | exact v3) (xld (by decide) rfl) ?_
  refine xl_callV (a := 116) (ix := 28) (k := 45) (As := [.int (xs (Int32.toNatClampNeg (nI k + 1)))]) (M := (xSH, MI, ML, xmr Qf)) (rest := [.int x]) C0 (by decide) rfl rfl (by decide) xlw_116 hop2 rfl (Nat.le_of_ble_eq_true rfl) (by decide) (xld (by decide) rfl) hP hz hS hl.1 ?_
  rintro _ H locs ⟨MI, ML, Qf, rfl, hI⟩ hP hz hS
  refine lv_icmp_eq hx hb (xld (by decide) rfl) (tgt := 584) rfl (fun _ => ?_) (fun h => absurd rfl h)
  exact kk MI ML Qf H locs hI hP hz hS
set_option maxHeartbeats 2000000 in
theorem lc3 (C0 : xLC p s m meth c b0 L xs G D) (hL : L ≤ 2048) {Inv : (Nat → Nat → Int32) → (Nat → Nat → Int64) → (Nat → Nat) → Prop} {k : Nat} (hk : k + 4 ≤ L) {MI : Nat → Nat → Int32} {ML : Nat → Nat → Int64} {Qf : Nat → Nat} (hI : Inv MI ML Qf) (hP : va_P D xcl (xm_w s.heap.size G (xSH, MI, ML, xmr Qf)) H) (hz : H.size = s.heap.size + 68) (hS : va_S (fun q => s.heap.size ≤ q) s.heap H locs) (hl : lv_has ls 4 [(0, .ref b0), (1, .ref (s.heap.size + 0)), (2, .ref (s.heap.size + 45)), (3, .int (nI k))])
    (kk : ∀ (MI : Nat → Nat → Int32) (ML : Nat → Nat → Int64) (Qf : Nat → Nat) (H : Heap) (locs : List Loc), Inv MI ML Qf → va_P D xcl (xm_w s.heap.size G (xSH, MI, ML, xmr Qf)) H → H.size = s.heap.size + 68 → va_S (fun q => s.heap.size ≤ q) s.heap H locs → W p l e room_1 s m #[Value.ref b0] below meth c H locs 68 4200 Q (F0 m 584 ls [])) (hop : xOpI Inv 81 145 [.int (xs (Int32.toNatClampNeg (nI k + 1)))]) : W p l e room_1 s m #[Value.ref b0] below meth c H locs 68 4200 Q (F0 m 213 ls []) := by
  obtain ⟨hx, hb, hr, hml, hown, hts, hX, hbl, hlk, hgv⟩ := C0.1
  have hbA : ¬ (s.heap.size ≤ b0) := by omega
  have v1 : vp_in (nI k + 1) L := by rw [nI_1]; exact vp_in_nI (by omega) (by omega)
  have v2 : vp_in (nI k + 2) L := by rw [show (2 : Int32) = nI 2 from rfl, nI_add]; exact vp_in_nI (by omega) (by omega)
  have v3 : vp_in (nI k + 3) L := by rw [show (3 : Int32) = nI 3 from rfl, nI_add]; exact vp_in_nI (by omega) (by omega)
  refine lv_aload_n hx hb (xld (by decide) rfl) rfl (lv_at hl 1 rfl) ?_
  refine lv_aload_n hx hb (xld (by decide) rfl) rfl (lv_at hl 0 rfl) ?_
  refine lv_iload_n hx hb (xld (by decide) rfl) rfl (lv_at hl 3 rfl) ?_
  refine lv_iconst (v := 1) hx hb (xld (by decide) rfl) rfl ?_
  refine lv_iadd hx hb (xld (by decide) rfl) ?_
  refine va_sld hx hb hX hbl hbA hS (by first | exact v1 | exact v2 | exact v3) (xld (by decide) rfl) ?_
  refine xl_callV (a := 81) (ix := 29) (k := 0) (As := [.int (xs (Int32.toNatClampNeg (nI k + 1)))]) (M := (xSH, MI, ML, xmr Qf)) (rest := []) C0 (by decide) rfl rfl (by decide) xlw_81 (hop MI ML Qf hI) rfl (Nat.le_of_ble_eq_true rfl) (by decide) (xld (by decide) rfl) hP hz hS hl.1 ?_
  rintro _ H locs ⟨x, MI, ML, Qf, rfl, hop2⟩ hP hz hS
  refine lv_aload_n hx hb (xld (by decide) rfl) rfl (lv_at hl 2 rfl) ?_
  refine lv_aload_n hx hb (xld (by decide) rfl) rfl (lv_at hl 0 rfl) ?_
  refine lv_iload_n hx hb (xld (by decide) rfl) rfl (lv_at hl 3 rfl) ?_
  refine lv_iconst (v := 1) hx hb (xld (by decide) rfl) rfl ?_
  refine lv_iadd hx hb (xld (by decide) rfl) ?_
  refine va_sld hx hb hX hbl hbA hS (by first | exact v1 | exact v2 | exact v3) (xld (by decide) rfl) ?_
  refine xl_callV (a := 145) (ix := 32) (k := 45) (As := [.int (xs (Int32.toNatClampNeg (nI k + 1)))]) (M := (xSH, MI, ML, xmr Qf)) (rest := [.int x]) C0 (by decide) rfl rfl (by decide) xlw_145 hop2 rfl (Nat.le_of_ble_eq_true rfl) (by decide) (xld (by decide) rfl) hP hz hS hl.1 ?_
  rintro _ H locs ⟨MI, ML, Qf, rfl, hI⟩ hP hz hS
  refine lv_icmp_eq hx hb (xld (by decide) rfl) (tgt := 584) rfl (fun _ => ?_) (fun h => absurd rfl h)
  exact kk MI ML Qf H locs hI hP hz hS
set_option maxHeartbeats 2000000 in
theorem lc4 (C0 : xLC p s m meth c b0 L xs G D) (hL : L ≤ 2048) {Inv : (Nat → Nat → Int32) → (Nat → Nat → Int64) → (Nat → Nat) → Prop} {k : Nat} (hk : k + 4 ≤ L) {MI : Nat → Nat → Int32} {ML : Nat → Nat → Int64} {Qf : Nat → Nat} (hI : Inv MI ML Qf) (hP : va_P D xcl (xm_w s.heap.size G (xSH, MI, ML, xmr Qf)) H) (hz : H.size = s.heap.size + 68) (hS : va_S (fun q => s.heap.size ≤ q) s.heap H locs) (hl : lv_has ls 4 [(0, .ref b0), (1, .ref (s.heap.size + 0)), (2, .ref (s.heap.size + 45)), (3, .int (nI k))])
    (kk : ∀ (MI : Nat → Nat → Int32) (ML : Nat → Nat → Int64) (Qf : Nat → Nat) (H : Heap) (locs : List Loc), Inv MI ML Qf → va_P D xcl (xm_w s.heap.size G (xSH, MI, ML, xmr Qf)) H → H.size = s.heap.size + 68 → va_S (fun q => s.heap.size ≤ q) s.heap H locs → W p l e room_1 s m #[Value.ref b0] below meth c H locs 68 4200 Q (F0 m 584 ls [])) (hop : xOpI Inv 83 146 []) : W p l e room_1 s m #[Value.ref b0] below meth c H locs 68 4200 Q (F0 m 236 ls []) := by
  obtain ⟨hx, hb, hr, hml, hown, hts, hX, hbl, hlk, hgv⟩ := C0.1
  have hbA : ¬ (s.heap.size ≤ b0) := by omega
  have v1 : vp_in (nI k + 1) L := by rw [nI_1]; exact vp_in_nI (by omega) (by omega)
  have v2 : vp_in (nI k + 2) L := by rw [show (2 : Int32) = nI 2 from rfl, nI_add]; exact vp_in_nI (by omega) (by omega)
  have v3 : vp_in (nI k + 3) L := by rw [show (3 : Int32) = nI 3 from rfl, nI_add]; exact vp_in_nI (by omega) (by omega)
  refine lv_aload_n hx hb (xld (by decide) rfl) rfl (lv_at hl 1 rfl) ?_
  refine xl_callV (a := 83) (ix := 33) (k := 0) (As := []) (M := (xSH, MI, ML, xmr Qf)) (rest := []) C0 (by decide) rfl rfl (by decide) xlw_83 (hop MI ML Qf hI) rfl (Nat.le_of_ble_eq_true rfl) (by decide) (xld (by decide) rfl) hP hz hS hl.1 ?_
  rintro _ H locs ⟨x, MI, ML, Qf, rfl, hop2⟩ hP hz hS
  refine lv_aload_n hx hb (xld (by decide) rfl) rfl (lv_at hl 2 rfl) ?_
  refine xl_callV (a := 146) (ix := 37) (k := 45) (As := []) (M := (xSH, MI, ML, xmr Qf)) (rest := [.int x]) C0 (by decide) rfl rfl (by decide) xlw_146 hop2 rfl (Nat.le_of_ble_eq_true rfl) (by decide) (xld (by decide) rfl) hP hz hS hl.1 ?_
  rintro _ H locs ⟨MI, ML, Qf, rfl, hI⟩ hP hz hS
  refine lv_icmp_eq hx hb (xld (by decide) rfl) (tgt := 584) rfl (fun _ => ?_) (fun h => absurd rfl h)
  exact kk MI ML Qf H locs hI hP hz hS
set_option maxHeartbeats 2000000 in
theorem lc5 (C0 : xLC p s m meth c b0 L xs G D) (hL : L ≤ 2048) {Inv : (Nat → Nat → Int32) → (Nat → Nat → Int64) → (Nat → Nat) → Prop} {k : Nat} (hk : k + 4 ≤ L) {MI : Nat → Nat → Int32} {ML : Nat → Nat → Int64} {Qf : Nat → Nat} (hI : Inv MI ML Qf) (hP : va_P D xcl (xm_w s.heap.size G (xSH, MI, ML, xmr Qf)) H) (hz : H.size = s.heap.size + 68) (hS : va_S (fun q => s.heap.size ≤ q) s.heap H locs) (hl : lv_has ls 4 [(0, .ref b0), (1, .ref (s.heap.size + 0)), (2, .ref (s.heap.size + 45)), (3, .int (nI k))])
    (kk : ∀ (MI : Nat → Nat → Int32) (ML : Nat → Nat → Int64) (Qf : Nat → Nat) (H : Heap) (locs : List Loc), Inv MI ML Qf → va_P D xcl (xm_w s.heap.size G (xSH, MI, ML, xmr Qf)) H → H.size = s.heap.size + 68 → va_S (fun q => s.heap.size ≤ q) s.heap H locs → W p l e room_1 s m #[Value.ref b0] below meth c H locs 68 4200 Q (F0 m 584 ls [])) (hop : xOpI Inv 84 147 [.int (xs (Int32.toNatClampNeg (nI k + 1))), .int (xs (Int32.toNatClampNeg (nI k + 2)))]) : W p l e room_1 s m #[Value.ref b0] below meth c H locs 68 4200 Q (F0 m 249 ls []) := by
  obtain ⟨hx, hb, hr, hml, hown, hts, hX, hbl, hlk, hgv⟩ := C0.1
  have hbA : ¬ (s.heap.size ≤ b0) := by omega
  have v1 : vp_in (nI k + 1) L := by rw [nI_1]; exact vp_in_nI (by omega) (by omega)
  have v2 : vp_in (nI k + 2) L := by rw [show (2 : Int32) = nI 2 from rfl, nI_add]; exact vp_in_nI (by omega) (by omega)
  have v3 : vp_in (nI k + 3) L := by rw [show (3 : Int32) = nI 3 from rfl, nI_add]; exact vp_in_nI (by omega) (by omega)
  refine lv_aload_n hx hb (xld (by decide) rfl) rfl (lv_at hl 1 rfl) ?_
  refine lv_aload_n hx hb (xld (by decide) rfl) rfl (lv_at hl 0 rfl) ?_
  refine lv_iload_n hx hb (xld (by decide) rfl) rfl (lv_at hl 3 rfl) ?_
  refine lv_iconst (v := 1) hx hb (xld (by decide) rfl) rfl ?_
  refine lv_iadd hx hb (xld (by decide) rfl) ?_
  refine va_sld hx hb hX hbl hbA hS (by first | exact v1 | exact v2 | exact v3) (xld (by decide) rfl) ?_
  refine lv_aload_n hx hb (xld (by decide) rfl) rfl (lv_at hl 0 rfl) ?_
  refine lv_iload_n hx hb (xld (by decide) rfl) rfl (lv_at hl 3 rfl) ?_
  refine lv_iconst (v := 2) hx hb (xld (by decide) rfl) rfl ?_
  refine lv_iadd hx hb (xld (by decide) rfl) ?_
  refine va_sld hx hb hX hbl hbA hS (by first | exact v1 | exact v2 | exact v3) (xld (by decide) rfl) ?_
  refine xl_callV (a := 84) (ix := 38) (k := 0) (As := [.int (xs (Int32.toNatClampNeg (nI k + 1))), .int (xs (Int32.toNatClampNeg (nI k + 2)))]) (M := (xSH, MI, ML, xmr Qf)) (rest := []) C0 (by decide) rfl rfl (by decide) xlw_84 (hop MI ML Qf hI) rfl (Nat.le_of_ble_eq_true rfl) (by decide) (xld (by decide) rfl) hP hz hS hl.1 ?_
  rintro _ H locs ⟨x, MI, ML, Qf, rfl, hop2⟩ hP hz hS
  refine lv_aload_n hx hb (xld (by decide) rfl) rfl (lv_at hl 2 rfl) ?_
  refine lv_aload_n hx hb (xld (by decide) rfl) rfl (lv_at hl 0 rfl) ?_
  refine lv_iload_n hx hb (xld (by decide) rfl) rfl (lv_at hl 3 rfl) ?_
  refine lv_iconst (v := 1) hx hb (xld (by decide) rfl) rfl ?_
  refine lv_iadd hx hb (xld (by decide) rfl) ?_
  refine va_sld hx hb hX hbl hbA hS (by first | exact v1 | exact v2 | exact v3) (xld (by decide) rfl) ?_
  refine lv_aload_n hx hb (xld (by decide) rfl) rfl (lv_at hl 0 rfl) ?_
  refine lv_iload_n hx hb (xld (by decide) rfl) rfl (lv_at hl 3 rfl) ?_
  refine lv_iconst (v := 2) hx hb (xld (by decide) rfl) rfl ?_
  refine lv_iadd hx hb (xld (by decide) rfl) ?_
  refine va_sld hx hb hX hbl hbA hS (by first | exact v1 | exact v2 | exact v3) (xld (by decide) rfl) ?_
  refine xl_callV (a := 147) (ix := 42) (k := 45) (As := [.int (xs (Int32.toNatClampNeg (nI k + 1))), .int (xs (Int32.toNatClampNeg (nI k + 2)))]) (M := (xSH, MI, ML, xmr Qf)) (rest := [.int x]) C0 (by decide) rfl rfl (by decide) xlw_147 hop2 rfl (Nat.le_of_ble_eq_true rfl) (by decide) (xld (by decide) rfl) hP hz hS hl.1 ?_
  rintro _ H locs ⟨MI, ML, Qf, rfl, hI⟩ hP hz hS
  refine lv_icmp_eq hx hb (xld (by decide) rfl) (tgt := 584) rfl (fun _ => ?_) (fun h => absurd rfl h)
  exact kk MI ML Qf H locs hI hP hz hS
set_option maxHeartbeats 2000000 in
theorem lc6 (C0 : xLC p s m meth c b0 L xs G D) (hL : L ≤ 2048) {Inv : (Nat → Nat → Int32) → (Nat → Nat → Int64) → (Nat → Nat) → Prop} {k : Nat} (hk : k + 4 ≤ L) {MI : Nat → Nat → Int32} {ML : Nat → Nat → Int64} {Qf : Nat → Nat} (hI : Inv MI ML Qf) (hP : va_P D xcl (xm_w s.heap.size G (xSH, MI, ML, xmr Qf)) H) (hz : H.size = s.heap.size + 68) (hS : va_S (fun q => s.heap.size ≤ q) s.heap H locs) (hl : lv_has ls 4 [(0, .ref b0), (1, .ref (s.heap.size + 0)), (2, .ref (s.heap.size + 45)), (3, .int (nI k))])
    (kk : ∀ (MI : Nat → Nat → Int32) (ML : Nat → Nat → Int64) (Qf : Nat → Nat) (H : Heap) (locs : List Loc), Inv MI ML Qf → va_P D xcl (xm_w s.heap.size G (xSH, MI, ML, xmr Qf)) H → H.size = s.heap.size + 68 → va_S (fun q => s.heap.size ≤ q) s.heap H locs → W p l e room_1 s m #[Value.ref b0] below meth c H locs 68 4200 Q (F0 m 584 ls [])) (hop : xOpI Inv 87 149 [.int (xs (Int32.toNatClampNeg (nI k + 1)))]) : W p l e room_1 s m #[Value.ref b0] below meth c H locs 68 4200 Q (F0 m 282 ls []) := by
  obtain ⟨hx, hb, hr, hml, hown, hts, hX, hbl, hlk, hgv⟩ := C0.1
  have hbA : ¬ (s.heap.size ≤ b0) := by omega
  have v1 : vp_in (nI k + 1) L := by rw [nI_1]; exact vp_in_nI (by omega) (by omega)
  have v2 : vp_in (nI k + 2) L := by rw [show (2 : Int32) = nI 2 from rfl, nI_add]; exact vp_in_nI (by omega) (by omega)
  have v3 : vp_in (nI k + 3) L := by rw [show (3 : Int32) = nI 3 from rfl, nI_add]; exact vp_in_nI (by omega) (by omega)
  refine lv_aload_n hx hb (xld (by decide) rfl) rfl (lv_at hl 1 rfl) ?_
  refine lv_aload_n hx hb (xld (by decide) rfl) rfl (lv_at hl 0 rfl) ?_
  refine lv_iload_n hx hb (xld (by decide) rfl) rfl (lv_at hl 3 rfl) ?_
  refine lv_iconst (v := 1) hx hb (xld (by decide) rfl) rfl ?_
  refine lv_iadd hx hb (xld (by decide) rfl) ?_
  refine va_sld hx hb hX hbl hbA hS (by first | exact v1 | exact v2 | exact v3) (xld (by decide) rfl) ?_
  refine xl_callV (a := 87) (ix := 43) (k := 0) (As := [.int (xs (Int32.toNatClampNeg (nI k + 1)))]) (M := (xSH, MI, ML, xmr Qf)) (rest := []) C0 (by decide) rfl rfl (by decide) xlw_87 (hop MI ML Qf hI) rfl (Nat.le_of_ble_eq_true rfl) (by decide) (xld (by decide) rfl) hP hz hS hl.1 ?_
  rintro _ H locs ⟨x, MI, ML, Qf, rfl, hop2⟩ hP hz hS
  refine lv_aload_n hx hb (xld (by decide) rfl) rfl (lv_at hl 2 rfl) ?_
  refine lv_aload_n hx hb (xld (by decide) rfl) rfl (lv_at hl 0 rfl) ?_
  refine lv_iload_n hx hb (xld (by decide) rfl) rfl (lv_at hl 3 rfl) ?_
  refine lv_iconst (v := 1) hx hb (xld (by decide) rfl) rfl ?_
  refine lv_iadd hx hb (xld (by decide) rfl) ?_
  refine va_sld hx hb hX hbl hbA hS (by first | exact v1 | exact v2 | exact v3) (xld (by decide) rfl) ?_
  refine xl_callV (a := 149) (ix := 46) (k := 45) (As := [.int (xs (Int32.toNatClampNeg (nI k + 1)))]) (M := (xSH, MI, ML, xmr Qf)) (rest := [.int x]) C0 (by decide) rfl rfl (by decide) xlw_149 hop2 rfl (Nat.le_of_ble_eq_true rfl) (by decide) (xld (by decide) rfl) hP hz hS hl.1 ?_
  rintro _ H locs ⟨MI, ML, Qf, rfl, hI⟩ hP hz hS
  refine lv_icmp_eq hx hb (xld (by decide) rfl) (tgt := 584) rfl (fun _ => ?_) (fun h => absurd rfl h)
  exact kk MI ML Qf H locs hI hP hz hS
set_option maxHeartbeats 2000000 in
theorem lc7 (C0 : xLC p s m meth c b0 L xs G D) (hL : L ≤ 2048) {Inv : (Nat → Nat → Int32) → (Nat → Nat → Int64) → (Nat → Nat) → Prop} {k : Nat} (hk : k + 4 ≤ L) {MI : Nat → Nat → Int32} {ML : Nat → Nat → Int64} {Qf : Nat → Nat} (hI : Inv MI ML Qf) (hP : va_P D xcl (xm_w s.heap.size G (xSH, MI, ML, xmr Qf)) H) (hz : H.size = s.heap.size + 68) (hS : va_S (fun q => s.heap.size ≤ q) s.heap H locs) (hl : lv_has ls 4 [(0, .ref b0), (1, .ref (s.heap.size + 0)), (2, .ref (s.heap.size + 45)), (3, .int (nI k))])
    (kk : ∀ (MI : Nat → Nat → Int32) (ML : Nat → Nat → Int64) (Qf : Nat → Nat) (H : Heap) (locs : List Loc), Inv MI ML Qf → va_P D xcl (xm_w s.heap.size G (xSH, MI, ML, xmr Qf)) H → H.size = s.heap.size + 68 → va_S (fun q => s.heap.size ≤ q) s.heap H locs → W p l e room_1 s m #[Value.ref b0] below meth c H locs 68 4200 Q (F0 m 584 ls [])) (hop : xOpI Inv 88 151 [.int (xs (Int32.toNatClampNeg (nI k + 1))), .int (xs (Int32.toNatClampNeg (nI k + 2)))]) : W p l e room_1 s m #[Value.ref b0] below meth c H locs 68 4200 Q (F0 m 305 ls []) := by
  obtain ⟨hx, hb, hr, hml, hown, hts, hX, hbl, hlk, hgv⟩ := C0.1
  have hbA : ¬ (s.heap.size ≤ b0) := by omega
  have v1 : vp_in (nI k + 1) L := by rw [nI_1]; exact vp_in_nI (by omega) (by omega)
  have v2 : vp_in (nI k + 2) L := by rw [show (2 : Int32) = nI 2 from rfl, nI_add]; exact vp_in_nI (by omega) (by omega)
  have v3 : vp_in (nI k + 3) L := by rw [show (3 : Int32) = nI 3 from rfl, nI_add]; exact vp_in_nI (by omega) (by omega)
  refine lv_aload_n hx hb (xld (by decide) rfl) rfl (lv_at hl 1 rfl) ?_
  refine lv_aload_n hx hb (xld (by decide) rfl) rfl (lv_at hl 0 rfl) ?_
  refine lv_iload_n hx hb (xld (by decide) rfl) rfl (lv_at hl 3 rfl) ?_
  refine lv_iconst (v := 1) hx hb (xld (by decide) rfl) rfl ?_
  refine lv_iadd hx hb (xld (by decide) rfl) ?_
  refine va_sld hx hb hX hbl hbA hS (by first | exact v1 | exact v2 | exact v3) (xld (by decide) rfl) ?_
  refine lv_aload_n hx hb (xld (by decide) rfl) rfl (lv_at hl 0 rfl) ?_
  refine lv_iload_n hx hb (xld (by decide) rfl) rfl (lv_at hl 3 rfl) ?_
  refine lv_iconst (v := 2) hx hb (xld (by decide) rfl) rfl ?_
  refine lv_iadd hx hb (xld (by decide) rfl) ?_
  refine va_sld hx hb hX hbl hbA hS (by first | exact v1 | exact v2 | exact v3) (xld (by decide) rfl) ?_
  refine xl_callV (a := 88) (ix := 47) (k := 0) (As := [.int (xs (Int32.toNatClampNeg (nI k + 1))), .int (xs (Int32.toNatClampNeg (nI k + 2)))]) (M := (xSH, MI, ML, xmr Qf)) (rest := []) C0 (by decide) rfl rfl (by decide) xlw_88 (hop MI ML Qf hI) rfl (Nat.le_of_ble_eq_true rfl) (by decide) (xld (by decide) rfl) hP hz hS hl.1 ?_
  rintro _ H locs ⟨x, MI, ML, Qf, rfl, hop2⟩ hP hz hS
  refine lv_aload_n hx hb (xld (by decide) rfl) rfl (lv_at hl 2 rfl) ?_
  refine lv_aload_n hx hb (xld (by decide) rfl) rfl (lv_at hl 0 rfl) ?_
  refine lv_iload_n hx hb (xld (by decide) rfl) rfl (lv_at hl 3 rfl) ?_
  refine lv_iconst (v := 1) hx hb (xld (by decide) rfl) rfl ?_
  refine lv_iadd hx hb (xld (by decide) rfl) ?_
  refine va_sld hx hb hX hbl hbA hS (by first | exact v1 | exact v2 | exact v3) (xld (by decide) rfl) ?_
  refine lv_aload_n hx hb (xld (by decide) rfl) rfl (lv_at hl 0 rfl) ?_
  refine lv_iload_n hx hb (xld (by decide) rfl) rfl (lv_at hl 3 rfl) ?_
  refine lv_iconst (v := 2) hx hb (xld (by decide) rfl) rfl ?_
  refine lv_iadd hx hb (xld (by decide) rfl) ?_
  refine va_sld hx hb hX hbl hbA hS (by first | exact v1 | exact v2 | exact v3) (xld (by decide) rfl) ?_
  refine xl_callV (a := 151) (ix := 50) (k := 45) (As := [.int (xs (Int32.toNatClampNeg (nI k + 1))), .int (xs (Int32.toNatClampNeg (nI k + 2)))]) (M := (xSH, MI, ML, xmr Qf)) (rest := [.int x]) C0 (by decide) rfl rfl (by decide) xlw_151 hop2 rfl (Nat.le_of_ble_eq_true rfl) (by decide) (xld (by decide) rfl) hP hz hS hl.1 ?_
  rintro _ H locs ⟨MI, ML, Qf, rfl, hI⟩ hP hz hS
  refine lv_icmp_eq hx hb (xld (by decide) rfl) (tgt := 584) rfl (fun _ => ?_) (fun h => absurd rfl h)
  exact kk MI ML Qf H locs hI hP hz hS
set_option maxHeartbeats 2000000 in
theorem lc8 (C0 : xLC p s m meth c b0 L xs G D) (hL : L ≤ 2048) {Inv : (Nat → Nat → Int32) → (Nat → Nat → Int64) → (Nat → Nat) → Prop} {k : Nat} (hk : k + 4 ≤ L) {MI : Nat → Nat → Int32} {ML : Nat → Nat → Int64} {Qf : Nat → Nat} (hI : Inv MI ML Qf) (hP : va_P D xcl (xm_w s.heap.size G (xSH, MI, ML, xmr Qf)) H) (hz : H.size = s.heap.size + 68) (hS : va_S (fun q => s.heap.size ≤ q) s.heap H locs) (hl : lv_has ls 4 [(0, .ref b0), (1, .ref (s.heap.size + 0)), (2, .ref (s.heap.size + 45)), (3, .int (nI k))])
    (kk : ∀ (MI : Nat → Nat → Int32) (ML : Nat → Nat → Int64) (Qf : Nat → Nat) (H : Heap) (locs : List Loc), Inv MI ML Qf → va_P D xcl (xm_w s.heap.size G (xSH, MI, ML, xmr Qf)) H → H.size = s.heap.size + 68 → va_S (fun q => s.heap.size ≤ q) s.heap H locs → W p l e room_1 s m #[Value.ref b0] below meth c H locs 68 4200 Q (F0 m 584 ls [])) (hop0 : xOpL Inv 90 152 [.int (xs (Int32.toNatClampNeg (nI k + 1))), .int 0]) (hop1 : xOpL Inv 90 152 [.int (xs (Int32.toNatClampNeg (nI k + 1))), .int 1]) : W p l e room_1 s m #[Value.ref b0] below meth c H locs 68 4200 Q (F0 m 338 ls []) := by
  obtain ⟨hx, hb, hr, hml, hown, hts, hX, hbl, hlk, hgv⟩ := C0.1
  have hbA : ¬ (s.heap.size ≤ b0) := by omega
  have v1 : vp_in (nI k + 1) L := by rw [nI_1]; exact vp_in_nI (by omega) (by omega)
  have v2 : vp_in (nI k + 2) L := by rw [show (2 : Int32) = nI 2 from rfl, nI_add]; exact vp_in_nI (by omega) (by omega)
  have v3 : vp_in (nI k + 3) L := by rw [show (3 : Int32) = nI 3 from rfl, nI_add]; exact vp_in_nI (by omega) (by omega)
  refine lv_aload_n hx hb (xld (by decide) rfl) rfl (lv_at hl 1 rfl) ?_
  refine lv_aload_n hx hb (xld (by decide) rfl) rfl (lv_at hl 0 rfl) ?_
  refine lv_iload_n hx hb (xld (by decide) rfl) rfl (lv_at hl 3 rfl) ?_
  refine lv_iconst (v := 1) hx hb (xld (by decide) rfl) rfl ?_
  refine lv_iadd hx hb (xld (by decide) rfl) ?_
  refine va_sld hx hb hX hbl hbA hS (by first | exact v1 | exact v2 | exact v3) (xld (by decide) rfl) ?_
  refine lv_aload_n hx hb (xld (by decide) rfl) rfl (lv_at hl 0 rfl) ?_
  refine lv_iload_n hx hb (xld (by decide) rfl) rfl (lv_at hl 3 rfl) ?_
  refine lv_iconst (v := 2) hx hb (xld (by decide) rfl) rfl ?_
  refine lv_iadd hx hb (xld (by decide) rfl) ?_
  refine va_sld hx hb hX hbl hbA hS (by first | exact v1 | exact v2 | exact v3) (xld (by decide) rfl) ?_
  by_cases hs0 : xs (Int32.toNatClampNeg (nI k + 2)) = 0
  · refine lv_if_eq hx hb (xld (by decide) rfl) (tgt := 356) rfl (fun _ => ?_) (fun h => absurd hs0 h)
    refine lv_iconst (v := 0) hx hb (xld (by decide) rfl) rfl ?_
    have hop := hop0
    refine xl_callV (a := 90) (ix := 51) (k := 0) (As := [.int (xs (Int32.toNatClampNeg (nI k + 1))), .int 0]) (M := (xSH, MI, ML, xmr Qf)) (rest := []) C0 (by decide) rfl rfl (by decide) xlw_90 (hop MI ML Qf hI) rfl (Nat.le_of_ble_eq_true rfl) (by decide) (xld (by decide) rfl) hP hz hS hl.1 ?_
    rintro _ H locs ⟨x, MI, ML, Qf, rfl, hop2⟩ hP hz hS
    refine lv_aload_n hx hb (xld (by decide) rfl) rfl (lv_at hl 2 rfl) ?_
    refine lv_aload_n hx hb (xld (by decide) rfl) rfl (lv_at hl 0 rfl) ?_
    refine lv_iload_n hx hb (xld (by decide) rfl) rfl (lv_at hl 3 rfl) ?_
    refine lv_iconst (v := 1) hx hb (xld (by decide) rfl) rfl ?_
    refine lv_iadd hx hb (xld (by decide) rfl) ?_
    refine va_sld hx hb hX hbl hbA hS (by first | exact v1 | exact v2 | exact v3) (xld (by decide) rfl) ?_
    refine lv_aload_n hx hb (xld (by decide) rfl) rfl (lv_at hl 0 rfl) ?_
    refine lv_iload_n hx hb (xld (by decide) rfl) rfl (lv_at hl 3 rfl) ?_
    refine lv_iconst (v := 2) hx hb (xld (by decide) rfl) rfl ?_
    refine lv_iadd hx hb (xld (by decide) rfl) ?_
    refine va_sld hx hb hX hbl hbA hS (by first | exact v1 | exact v2 | exact v3) (xld (by decide) rfl) ?_
    refine lv_if_eq hx hb (xld (by decide) rfl) (tgt := 378) rfl (fun _ => ?_) (fun h => absurd hs0 h)
    refine lv_iconst (v := 0) hx hb (xld (by decide) rfl) rfl ?_
    refine xl_callV (a := 152) (ix := 55) (k := 45) (As := [.int (xs (Int32.toNatClampNeg (nI k + 1))), .int 0]) (M := (xSH, MI, ML, xmr Qf)) (rest := [.long x]) C0 (by decide) rfl rfl (by decide) xlw_152 hop2 rfl (Nat.le_of_ble_eq_true rfl) (by decide) (xld (by decide) rfl) hP hz hS hl.1 ?_
    rintro _ H locs ⟨MI, ML, Qf, rfl, hI⟩ hP hz hS
    refine W.lcmp hx hb (xld (by decide) rfl) ?_
    refine lv_if_eq hx hb (xld (by decide) rfl) (tgt := 584) rfl (fun _ => ?_) (fun h => absurd ((lg_cmp_eq x x).mpr rfl) h)
    exact kk MI ML Qf H locs hI hP hz hS
  · refine lv_if_eq hx hb (xld (by decide) rfl) (tgt := 356) rfl (fun h => absurd h hs0) (fun _ => ?_)
    refine lv_iconst (v := 1) hx hb (xld (by decide) rfl) rfl ?_
    refine lv_goto hx hb (xld (by decide) rfl) (tgt := 357) rfl ?_
    have hop := hop1
    refine xl_callV (a := 90) (ix := 51) (k := 0) (As := [.int (xs (Int32.toNatClampNeg (nI k + 1))), .int 1]) (M := (xSH, MI, ML, xmr Qf)) (rest := []) C0 (by decide) rfl rfl (by decide) xlw_90 (hop MI ML Qf hI) rfl (Nat.le_of_ble_eq_true rfl) (by decide) (xld (by decide) rfl) hP hz hS hl.1 ?_
    rintro _ H locs ⟨x, MI, ML, Qf, rfl, hop2⟩ hP hz hS
    refine lv_aload_n hx hb (xld (by decide) rfl) rfl (lv_at hl 2 rfl) ?_
    refine lv_aload_n hx hb (xld (by decide) rfl) rfl (lv_at hl 0 rfl) ?_
    refine lv_iload_n hx hb (xld (by decide) rfl) rfl (lv_at hl 3 rfl) ?_
    refine lv_iconst (v := 1) hx hb (xld (by decide) rfl) rfl ?_
    refine lv_iadd hx hb (xld (by decide) rfl) ?_
    refine va_sld hx hb hX hbl hbA hS (by first | exact v1 | exact v2 | exact v3) (xld (by decide) rfl) ?_
    refine lv_aload_n hx hb (xld (by decide) rfl) rfl (lv_at hl 0 rfl) ?_
    refine lv_iload_n hx hb (xld (by decide) rfl) rfl (lv_at hl 3 rfl) ?_
    refine lv_iconst (v := 2) hx hb (xld (by decide) rfl) rfl ?_
    refine lv_iadd hx hb (xld (by decide) rfl) ?_
    refine va_sld hx hb hX hbl hbA hS (by first | exact v1 | exact v2 | exact v3) (xld (by decide) rfl) ?_
    refine lv_if_eq hx hb (xld (by decide) rfl) (tgt := 378) rfl (fun h => absurd h hs0) (fun _ => ?_)
    refine lv_iconst (v := 1) hx hb (xld (by decide) rfl) rfl ?_
    refine lv_goto hx hb (xld (by decide) rfl) (tgt := 379) rfl ?_
    refine xl_callV (a := 152) (ix := 55) (k := 45) (As := [.int (xs (Int32.toNatClampNeg (nI k + 1))), .int 1]) (M := (xSH, MI, ML, xmr Qf)) (rest := [.long x]) C0 (by decide) rfl rfl (by decide) xlw_152 hop2 rfl (Nat.le_of_ble_eq_true rfl) (by decide) (xld (by decide) rfl) hP hz hS hl.1 ?_
    rintro _ H locs ⟨MI, ML, Qf, rfl, hI⟩ hP hz hS
    refine W.lcmp hx hb (xld (by decide) rfl) ?_
    refine lv_if_eq hx hb (xld (by decide) rfl) (tgt := 584) rfl (fun _ => ?_) (fun h => absurd ((lg_cmp_eq x x).mpr rfl) h)
    exact kk MI ML Qf H locs hI hP hz hS
set_option maxHeartbeats 2000000 in
theorem lc9 (C0 : xLC p s m meth c b0 L xs G D) (hL : L ≤ 2048) {Inv : (Nat → Nat → Int32) → (Nat → Nat → Int64) → (Nat → Nat) → Prop} {k : Nat} (hk : k + 4 ≤ L) {MI : Nat → Nat → Int32} {ML : Nat → Nat → Int64} {Qf : Nat → Nat} (hI : Inv MI ML Qf) (hP : va_P D xcl (xm_w s.heap.size G (xSH, MI, ML, xmr Qf)) H) (hz : H.size = s.heap.size + 68) (hS : va_S (fun q => s.heap.size ≤ q) s.heap H locs) (hl : lv_has ls 4 [(0, .ref b0), (1, .ref (s.heap.size + 0)), (2, .ref (s.heap.size + 45)), (3, .int (nI k))])
    (kk : ∀ (MI : Nat → Nat → Int32) (ML : Nat → Nat → Int64) (Qf : Nat → Nat) (H : Heap) (locs : List Loc), Inv MI ML Qf → va_P D xcl (xm_w s.heap.size G (xSH, MI, ML, xmr Qf)) H → H.size = s.heap.size + 68 → va_S (fun q => s.heap.size ≤ q) s.heap H locs → W p l e room_1 s m #[Value.ref b0] below meth c H locs 68 4200 Q (F0 m 584 ls [])) (hop : xOpL Inv 91 153 [.int (xs (Int32.toNatClampNeg (nI k + 1)))]) : W p l e room_1 s m #[Value.ref b0] below meth c H locs 68 4200 Q (F0 m 388 ls []) := by
  obtain ⟨hx, hb, hr, hml, hown, hts, hX, hbl, hlk, hgv⟩ := C0.1
  have hbA : ¬ (s.heap.size ≤ b0) := by omega
  have v1 : vp_in (nI k + 1) L := by rw [nI_1]; exact vp_in_nI (by omega) (by omega)
  have v2 : vp_in (nI k + 2) L := by rw [show (2 : Int32) = nI 2 from rfl, nI_add]; exact vp_in_nI (by omega) (by omega)
  have v3 : vp_in (nI k + 3) L := by rw [show (3 : Int32) = nI 3 from rfl, nI_add]; exact vp_in_nI (by omega) (by omega)
  refine lv_aload_n hx hb (xld (by decide) rfl) rfl (lv_at hl 1 rfl) ?_
  refine lv_aload_n hx hb (xld (by decide) rfl) rfl (lv_at hl 0 rfl) ?_
  refine lv_iload_n hx hb (xld (by decide) rfl) rfl (lv_at hl 3 rfl) ?_
  refine lv_iconst (v := 1) hx hb (xld (by decide) rfl) rfl ?_
  refine lv_iadd hx hb (xld (by decide) rfl) ?_
  refine va_sld hx hb hX hbl hbA hS (by first | exact v1 | exact v2 | exact v3) (xld (by decide) rfl) ?_
  refine xl_callV (a := 91) (ix := 56) (k := 0) (As := [.int (xs (Int32.toNatClampNeg (nI k + 1)))]) (M := (xSH, MI, ML, xmr Qf)) (rest := []) C0 (by decide) rfl rfl (by decide) xlw_91 (hop MI ML Qf hI) rfl (Nat.le_of_ble_eq_true rfl) (by decide) (xld (by decide) rfl) hP hz hS hl.1 ?_
  rintro _ H locs ⟨x, MI, ML, Qf, rfl, hop2⟩ hP hz hS
  refine lv_aload_n hx hb (xld (by decide) rfl) rfl (lv_at hl 2 rfl) ?_
  refine lv_aload_n hx hb (xld (by decide) rfl) rfl (lv_at hl 0 rfl) ?_
  refine lv_iload_n hx hb (xld (by decide) rfl) rfl (lv_at hl 3 rfl) ?_
  refine lv_iconst (v := 1) hx hb (xld (by decide) rfl) rfl ?_
  refine lv_iadd hx hb (xld (by decide) rfl) ?_
  refine va_sld hx hb hX hbl hbA hS (by first | exact v1 | exact v2 | exact v3) (xld (by decide) rfl) ?_
  refine xl_callV (a := 153) (ix := 60) (k := 45) (As := [.int (xs (Int32.toNatClampNeg (nI k + 1)))]) (M := (xSH, MI, ML, xmr Qf)) (rest := [.long x]) C0 (by decide) rfl rfl (by decide) xlw_153 hop2 rfl (Nat.le_of_ble_eq_true rfl) (by decide) (xld (by decide) rfl) hP hz hS hl.1 ?_
  rintro _ H locs ⟨MI, ML, Qf, rfl, hI⟩ hP hz hS
  refine W.lcmp hx hb (xld (by decide) rfl) ?_
  refine lv_if_eq hx hb (xld (by decide) rfl) (tgt := 584) rfl (fun _ => ?_) (fun h => absurd ((lg_cmp_eq x x).mpr rfl) h)
  exact kk MI ML Qf H locs hI hP hz hS
set_option maxHeartbeats 2000000 in
theorem lc10 (C0 : xLC p s m meth c b0 L xs G D) (hL : L ≤ 2048) {Inv : (Nat → Nat → Int32) → (Nat → Nat → Int64) → (Nat → Nat) → Prop} {k : Nat} (hk : k + 4 ≤ L) {MI : Nat → Nat → Int32} {ML : Nat → Nat → Int64} {Qf : Nat → Nat} (hI : Inv MI ML Qf) (hP : va_P D xcl (xm_w s.heap.size G (xSH, MI, ML, xmr Qf)) H) (hz : H.size = s.heap.size + 68) (hS : va_S (fun q => s.heap.size ≤ q) s.heap H locs) (hl : lv_has ls 4 [(0, .ref b0), (1, .ref (s.heap.size + 0)), (2, .ref (s.heap.size + 45)), (3, .int (nI k))])
    (kk : ∀ (MI : Nat → Nat → Int32) (ML : Nat → Nat → Int64) (Qf : Nat → Nat) (H : Heap) (locs : List Loc), Inv MI ML Qf → va_P D xcl (xm_w s.heap.size G (xSH, MI, ML, xmr Qf)) H → H.size = s.heap.size + 68 → va_S (fun q => s.heap.size ≤ q) s.heap H locs → W p l e room_1 s m #[Value.ref b0] below meth c H locs 68 4200 Q (F0 m 584 ls [])) (hop : xOpI Inv 92 156 [.int (xs (Int32.toNatClampNeg (nI k + 1)))]) : W p l e room_1 s m #[Value.ref b0] below meth c H locs 68 4200 Q (F0 m 412 ls []) := by
  obtain ⟨hx, hb, hr, hml, hown, hts, hX, hbl, hlk, hgv⟩ := C0.1
  have hbA : ¬ (s.heap.size ≤ b0) := by omega
  have v1 : vp_in (nI k + 1) L := by rw [nI_1]; exact vp_in_nI (by omega) (by omega)
  have v2 : vp_in (nI k + 2) L := by rw [show (2 : Int32) = nI 2 from rfl, nI_add]; exact vp_in_nI (by omega) (by omega)
  have v3 : vp_in (nI k + 3) L := by rw [show (3 : Int32) = nI 3 from rfl, nI_add]; exact vp_in_nI (by omega) (by omega)
  refine lv_aload_n hx hb (xld (by decide) rfl) rfl (lv_at hl 1 rfl) ?_
  refine lv_aload_n hx hb (xld (by decide) rfl) rfl (lv_at hl 0 rfl) ?_
  refine lv_iload_n hx hb (xld (by decide) rfl) rfl (lv_at hl 3 rfl) ?_
  refine lv_iconst (v := 1) hx hb (xld (by decide) rfl) rfl ?_
  refine lv_iadd hx hb (xld (by decide) rfl) ?_
  refine va_sld hx hb hX hbl hbA hS (by first | exact v1 | exact v2 | exact v3) (xld (by decide) rfl) ?_
  refine xl_callV (a := 92) (ix := 61) (k := 0) (As := [.int (xs (Int32.toNatClampNeg (nI k + 1)))]) (M := (xSH, MI, ML, xmr Qf)) (rest := []) C0 (by decide) rfl rfl (by decide) xlw_92 (hop MI ML Qf hI) rfl (Nat.le_of_ble_eq_true rfl) (by decide) (xld (by decide) rfl) hP hz hS hl.1 ?_
  rintro _ H locs ⟨x, MI, ML, Qf, rfl, hop2⟩ hP hz hS
  refine lv_aload_n hx hb (xld (by decide) rfl) rfl (lv_at hl 2 rfl) ?_
  refine lv_aload_n hx hb (xld (by decide) rfl) rfl (lv_at hl 0 rfl) ?_
  refine lv_iload_n hx hb (xld (by decide) rfl) rfl (lv_at hl 3 rfl) ?_
  refine lv_iconst (v := 1) hx hb (xld (by decide) rfl) rfl ?_
  refine lv_iadd hx hb (xld (by decide) rfl) ?_
  refine va_sld hx hb hX hbl hbA hS (by first | exact v1 | exact v2 | exact v3) (xld (by decide) rfl) ?_
  refine xl_callV (a := 156) (ix := 64) (k := 45) (As := [.int (xs (Int32.toNatClampNeg (nI k + 1)))]) (M := (xSH, MI, ML, xmr Qf)) (rest := [.int x]) C0 (by decide) rfl rfl (by decide) xlw_156 hop2 rfl (Nat.le_of_ble_eq_true rfl) (by decide) (xld (by decide) rfl) hP hz hS hl.1 ?_
  rintro _ H locs ⟨MI, ML, Qf, rfl, hI⟩ hP hz hS
  refine lv_icmp_eq hx hb (xld (by decide) rfl) (tgt := 584) rfl (fun _ => ?_) (fun h => absurd rfl h)
  exact kk MI ML Qf H locs hI hP hz hS
set_option maxHeartbeats 2000000 in
theorem lc11 (C0 : xLC p s m meth c b0 L xs G D) (hL : L ≤ 2048) {Inv : (Nat → Nat → Int32) → (Nat → Nat → Int64) → (Nat → Nat) → Prop} {k : Nat} (hk : k + 4 ≤ L) {MI : Nat → Nat → Int32} {ML : Nat → Nat → Int64} {Qf : Nat → Nat} (hI : Inv MI ML Qf) (hP : va_P D xcl (xm_w s.heap.size G (xSH, MI, ML, xmr Qf)) H) (hz : H.size = s.heap.size + 68) (hS : va_S (fun q => s.heap.size ≤ q) s.heap H locs) (hl : lv_has ls 4 [(0, .ref b0), (1, .ref (s.heap.size + 0)), (2, .ref (s.heap.size + 45)), (3, .int (nI k))])
    (kk : ∀ (MI : Nat → Nat → Int32) (ML : Nat → Nat → Int64) (Qf : Nat → Nat) (H : Heap) (locs : List Loc), Inv MI ML Qf → va_P D xcl (xm_w s.heap.size G (xSH, MI, ML, xmr Qf)) H → H.size = s.heap.size + 68 → va_S (fun q => s.heap.size ≤ q) s.heap H locs → W p l e room_1 s m #[Value.ref b0] below meth c H locs 68 4200 Q (F0 m 584 ls [])) (hop : xOpI Inv 95 158 [.int (xs (Int32.toNatClampNeg (nI k + 1)))]) : W p l e room_1 s m #[Value.ref b0] below meth c H locs 68 4200 Q (F0 m 435 ls []) := by
  obtain ⟨hx, hb, hr, hml, hown, hts, hX, hbl, hlk, hgv⟩ := C0.1
  have hbA : ¬ (s.heap.size ≤ b0) := by omega
  have v1 : vp_in (nI k + 1) L := by rw [nI_1]; exact vp_in_nI (by omega) (by omega)
  have v2 : vp_in (nI k + 2) L := by rw [show (2 : Int32) = nI 2 from rfl, nI_add]; exact vp_in_nI (by omega) (by omega)
  have v3 : vp_in (nI k + 3) L := by rw [show (3 : Int32) = nI 3 from rfl, nI_add]; exact vp_in_nI (by omega) (by omega)
  refine lv_aload_n hx hb (xld (by decide) rfl) rfl (lv_at hl 1 rfl) ?_
  refine lv_aload_n hx hb (xld (by decide) rfl) rfl (lv_at hl 0 rfl) ?_
  refine lv_iload_n hx hb (xld (by decide) rfl) rfl (lv_at hl 3 rfl) ?_
  refine lv_iconst (v := 1) hx hb (xld (by decide) rfl) rfl ?_
  refine lv_iadd hx hb (xld (by decide) rfl) ?_
  refine va_sld hx hb hX hbl hbA hS (by first | exact v1 | exact v2 | exact v3) (xld (by decide) rfl) ?_
  refine xl_callV (a := 95) (ix := 65) (k := 0) (As := [.int (xs (Int32.toNatClampNeg (nI k + 1)))]) (M := (xSH, MI, ML, xmr Qf)) (rest := []) C0 (by decide) rfl rfl (by decide) xlw_95 (hop MI ML Qf hI) rfl (Nat.le_of_ble_eq_true rfl) (by decide) (xld (by decide) rfl) hP hz hS hl.1 ?_
  rintro _ H locs ⟨x, MI, ML, Qf, rfl, hop2⟩ hP hz hS
  refine lv_aload_n hx hb (xld (by decide) rfl) rfl (lv_at hl 2 rfl) ?_
  refine lv_aload_n hx hb (xld (by decide) rfl) rfl (lv_at hl 0 rfl) ?_
  refine lv_iload_n hx hb (xld (by decide) rfl) rfl (lv_at hl 3 rfl) ?_
  refine lv_iconst (v := 1) hx hb (xld (by decide) rfl) rfl ?_
  refine lv_iadd hx hb (xld (by decide) rfl) ?_
  refine va_sld hx hb hX hbl hbA hS (by first | exact v1 | exact v2 | exact v3) (xld (by decide) rfl) ?_
  refine xl_callV (a := 158) (ix := 68) (k := 45) (As := [.int (xs (Int32.toNatClampNeg (nI k + 1)))]) (M := (xSH, MI, ML, xmr Qf)) (rest := [.int x]) C0 (by decide) rfl rfl (by decide) xlw_158 hop2 rfl (Nat.le_of_ble_eq_true rfl) (by decide) (xld (by decide) rfl) hP hz hS hl.1 ?_
  rintro _ H locs ⟨MI, ML, Qf, rfl, hI⟩ hP hz hS
  refine lv_icmp_eq hx hb (xld (by decide) rfl) (tgt := 584) rfl (fun _ => ?_) (fun h => absurd rfl h)
  exact kk MI ML Qf H locs hI hP hz hS
set_option maxHeartbeats 2000000 in
theorem lc12 (C0 : xLC p s m meth c b0 L xs G D) (hL : L ≤ 2048) {Inv : (Nat → Nat → Int32) → (Nat → Nat → Int64) → (Nat → Nat) → Prop} {k : Nat} (hk : k + 4 ≤ L) {MI : Nat → Nat → Int32} {ML : Nat → Nat → Int64} {Qf : Nat → Nat} (hI : Inv MI ML Qf) (hP : va_P D xcl (xm_w s.heap.size G (xSH, MI, ML, xmr Qf)) H) (hz : H.size = s.heap.size + 68) (hS : va_S (fun q => s.heap.size ≤ q) s.heap H locs) (hl : lv_has ls 4 [(0, .ref b0), (1, .ref (s.heap.size + 0)), (2, .ref (s.heap.size + 45)), (3, .int (nI k))])
    (kk : ∀ (MI : Nat → Nat → Int32) (ML : Nat → Nat → Int64) (Qf : Nat → Nat) (H : Heap) (locs : List Loc), Inv MI ML Qf → va_P D xcl (xm_w s.heap.size G (xSH, MI, ML, xmr Qf)) H → H.size = s.heap.size + 68 → va_S (fun q => s.heap.size ≤ q) s.heap H locs → W p l e room_1 s m #[Value.ref b0] below meth c H locs 68 4200 Q (F0 m 584 ls [])) (hop : xOpI Inv 96 160 [.int (xs (Int32.toNatClampNeg (nI k + 1)))]) : W p l e room_1 s m #[Value.ref b0] below meth c H locs 68 4200 Q (F0 m 458 ls []) := by
  obtain ⟨hx, hb, hr, hml, hown, hts, hX, hbl, hlk, hgv⟩ := C0.1
  have hbA : ¬ (s.heap.size ≤ b0) := by omega
  have v1 : vp_in (nI k + 1) L := by rw [nI_1]; exact vp_in_nI (by omega) (by omega)
  have v2 : vp_in (nI k + 2) L := by rw [show (2 : Int32) = nI 2 from rfl, nI_add]; exact vp_in_nI (by omega) (by omega)
  have v3 : vp_in (nI k + 3) L := by rw [show (3 : Int32) = nI 3 from rfl, nI_add]; exact vp_in_nI (by omega) (by omega)
  refine lv_aload_n hx hb (xld (by decide) rfl) rfl (lv_at hl 1 rfl) ?_
  refine lv_aload_n hx hb (xld (by decide) rfl) rfl (lv_at hl 0 rfl) ?_
  refine lv_iload_n hx hb (xld (by decide) rfl) rfl (lv_at hl 3 rfl) ?_
  refine lv_iconst (v := 1) hx hb (xld (by decide) rfl) rfl ?_
  refine lv_iadd hx hb (xld (by decide) rfl) ?_
  refine va_sld hx hb hX hbl hbA hS (by first | exact v1 | exact v2 | exact v3) (xld (by decide) rfl) ?_
  refine xl_callV (a := 96) (ix := 69) (k := 0) (As := [.int (xs (Int32.toNatClampNeg (nI k + 1)))]) (M := (xSH, MI, ML, xmr Qf)) (rest := []) C0 (by decide) rfl rfl (by decide) xlw_96 (hop MI ML Qf hI) rfl (Nat.le_of_ble_eq_true rfl) (by decide) (xld (by decide) rfl) hP hz hS hl.1 ?_
  rintro _ H locs ⟨x, MI, ML, Qf, rfl, hop2⟩ hP hz hS
  refine lv_aload_n hx hb (xld (by decide) rfl) rfl (lv_at hl 2 rfl) ?_
  refine lv_aload_n hx hb (xld (by decide) rfl) rfl (lv_at hl 0 rfl) ?_
  refine lv_iload_n hx hb (xld (by decide) rfl) rfl (lv_at hl 3 rfl) ?_
  refine lv_iconst (v := 1) hx hb (xld (by decide) rfl) rfl ?_
  refine lv_iadd hx hb (xld (by decide) rfl) ?_
  refine va_sld hx hb hX hbl hbA hS (by first | exact v1 | exact v2 | exact v3) (xld (by decide) rfl) ?_
  refine xl_callV (a := 160) (ix := 72) (k := 45) (As := [.int (xs (Int32.toNatClampNeg (nI k + 1)))]) (M := (xSH, MI, ML, xmr Qf)) (rest := [.int x]) C0 (by decide) rfl rfl (by decide) xlw_160 hop2 rfl (Nat.le_of_ble_eq_true rfl) (by decide) (xld (by decide) rfl) hP hz hS hl.1 ?_
  rintro _ H locs ⟨MI, ML, Qf, rfl, hI⟩ hP hz hS
  refine lv_icmp_eq hx hb (xld (by decide) rfl) (tgt := 584) rfl (fun _ => ?_) (fun h => absurd rfl h)
  exact kk MI ML Qf H locs hI hP hz hS
set_option maxHeartbeats 2000000 in
theorem lc13 (C0 : xLC p s m meth c b0 L xs G D) (hL : L ≤ 2048) {Inv : (Nat → Nat → Int32) → (Nat → Nat → Int64) → (Nat → Nat) → Prop} {k : Nat} (hk : k + 4 ≤ L) {MI : Nat → Nat → Int32} {ML : Nat → Nat → Int64} {Qf : Nat → Nat} (hI : Inv MI ML Qf) (hP : va_P D xcl (xm_w s.heap.size G (xSH, MI, ML, xmr Qf)) H) (hz : H.size = s.heap.size + 68) (hS : va_S (fun q => s.heap.size ≤ q) s.heap H locs) (hl : lv_has ls 4 [(0, .ref b0), (1, .ref (s.heap.size + 0)), (2, .ref (s.heap.size + 45)), (3, .int (nI k))])
    (kk : ∀ (MI : Nat → Nat → Int32) (ML : Nat → Nat → Int64) (Qf : Nat → Nat) (H : Heap) (locs : List Loc), Inv MI ML Qf → va_P D xcl (xm_w s.heap.size G (xSH, MI, ML, xmr Qf)) H → H.size = s.heap.size + 68 → va_S (fun q => s.heap.size ≤ q) s.heap H locs → W p l e room_1 s m #[Value.ref b0] below meth c H locs 68 4200 Q (F0 m 584 ls [])) (hop : xOpI Inv 98 163 [.int (xs (Int32.toNatClampNeg (nI k + 1)))]) : W p l e room_1 s m #[Value.ref b0] below meth c H locs 68 4200 Q (F0 m 481 ls []) := by
  obtain ⟨hx, hb, hr, hml, hown, hts, hX, hbl, hlk, hgv⟩ := C0.1
  have hbA : ¬ (s.heap.size ≤ b0) := by omega
  have v1 : vp_in (nI k + 1) L := by rw [nI_1]; exact vp_in_nI (by omega) (by omega)
  have v2 : vp_in (nI k + 2) L := by rw [show (2 : Int32) = nI 2 from rfl, nI_add]; exact vp_in_nI (by omega) (by omega)
  have v3 : vp_in (nI k + 3) L := by rw [show (3 : Int32) = nI 3 from rfl, nI_add]; exact vp_in_nI (by omega) (by omega)
  refine lv_aload_n hx hb (xld (by decide) rfl) rfl (lv_at hl 1 rfl) ?_
  refine lv_aload_n hx hb (xld (by decide) rfl) rfl (lv_at hl 0 rfl) ?_
  refine lv_iload_n hx hb (xld (by decide) rfl) rfl (lv_at hl 3 rfl) ?_
  refine lv_iconst (v := 1) hx hb (xld (by decide) rfl) rfl ?_
  refine lv_iadd hx hb (xld (by decide) rfl) ?_
  refine va_sld hx hb hX hbl hbA hS (by first | exact v1 | exact v2 | exact v3) (xld (by decide) rfl) ?_
  refine xl_callV (a := 98) (ix := 73) (k := 0) (As := [.int (xs (Int32.toNatClampNeg (nI k + 1)))]) (M := (xSH, MI, ML, xmr Qf)) (rest := []) C0 (by decide) rfl rfl (by decide) xlw_98 (hop MI ML Qf hI) rfl (Nat.le_of_ble_eq_true rfl) (by decide) (xld (by decide) rfl) hP hz hS hl.1 ?_
  rintro _ H locs ⟨x, MI, ML, Qf, rfl, hop2⟩ hP hz hS
  refine lv_aload_n hx hb (xld (by decide) rfl) rfl (lv_at hl 2 rfl) ?_
  refine lv_aload_n hx hb (xld (by decide) rfl) rfl (lv_at hl 0 rfl) ?_
  refine lv_iload_n hx hb (xld (by decide) rfl) rfl (lv_at hl 3 rfl) ?_
  refine lv_iconst (v := 1) hx hb (xld (by decide) rfl) rfl ?_
  refine lv_iadd hx hb (xld (by decide) rfl) ?_
  refine va_sld hx hb hX hbl hbA hS (by first | exact v1 | exact v2 | exact v3) (xld (by decide) rfl) ?_
  refine xl_callV (a := 163) (ix := 76) (k := 45) (As := [.int (xs (Int32.toNatClampNeg (nI k + 1)))]) (M := (xSH, MI, ML, xmr Qf)) (rest := [.int x]) C0 (by decide) rfl rfl (by decide) xlw_163 hop2 rfl (Nat.le_of_ble_eq_true rfl) (by decide) (xld (by decide) rfl) hP hz hS hl.1 ?_
  rintro _ H locs ⟨MI, ML, Qf, rfl, hI⟩ hP hz hS
  refine lv_icmp_eq hx hb (xld (by decide) rfl) (tgt := 584) rfl (fun _ => ?_) (fun h => absurd rfl h)
  exact kk MI ML Qf H locs hI hP hz hS
set_option maxHeartbeats 2000000 in
theorem lc14 (C0 : xLC p s m meth c b0 L xs G D) (hL : L ≤ 2048) {Inv : (Nat → Nat → Int32) → (Nat → Nat → Int64) → (Nat → Nat) → Prop} {k : Nat} (hk : k + 4 ≤ L) {MI : Nat → Nat → Int32} {ML : Nat → Nat → Int64} {Qf : Nat → Nat} (hI : Inv MI ML Qf) (hP : va_P D xcl (xm_w s.heap.size G (xSH, MI, ML, xmr Qf)) H) (hz : H.size = s.heap.size + 68) (hS : va_S (fun q => s.heap.size ≤ q) s.heap H locs) (hl : lv_has ls 4 [(0, .ref b0), (1, .ref (s.heap.size + 0)), (2, .ref (s.heap.size + 45)), (3, .int (nI k))])
    (kk : ∀ (MI : Nat → Nat → Int32) (ML : Nat → Nat → Int64) (Qf : Nat → Nat) (H : Heap) (locs : List Loc), Inv MI ML Qf → va_P D xcl (xm_w s.heap.size G (xSH, MI, ML, xmr Qf)) H → H.size = s.heap.size + 68 → va_S (fun q => s.heap.size ≤ q) s.heap H locs → W p l e room_1 s m #[Value.ref b0] below meth c H locs 68 4200 Q (F0 m 584 ls [])) (hop : xOpI Inv 100 164 [.int (xs (Int32.toNatClampNeg (nI k + 1))), .int (xs (Int32.toNatClampNeg (nI k + 2)))]) : W p l e room_1 s m #[Value.ref b0] below meth c H locs 68 4200 Q (F0 m 504 ls []) := by
  obtain ⟨hx, hb, hr, hml, hown, hts, hX, hbl, hlk, hgv⟩ := C0.1
  have hbA : ¬ (s.heap.size ≤ b0) := by omega
  have v1 : vp_in (nI k + 1) L := by rw [nI_1]; exact vp_in_nI (by omega) (by omega)
  have v2 : vp_in (nI k + 2) L := by rw [show (2 : Int32) = nI 2 from rfl, nI_add]; exact vp_in_nI (by omega) (by omega)
  have v3 : vp_in (nI k + 3) L := by rw [show (3 : Int32) = nI 3 from rfl, nI_add]; exact vp_in_nI (by omega) (by omega)
  refine lv_aload_n hx hb (xld (by decide) rfl) rfl (lv_at hl 1 rfl) ?_
  refine lv_aload_n hx hb (xld (by decide) rfl) rfl (lv_at hl 0 rfl) ?_
  refine lv_iload_n hx hb (xld (by decide) rfl) rfl (lv_at hl 3 rfl) ?_
  refine lv_iconst (v := 1) hx hb (xld (by decide) rfl) rfl ?_
  refine lv_iadd hx hb (xld (by decide) rfl) ?_
  refine va_sld hx hb hX hbl hbA hS (by first | exact v1 | exact v2 | exact v3) (xld (by decide) rfl) ?_
  refine lv_aload_n hx hb (xld (by decide) rfl) rfl (lv_at hl 0 rfl) ?_
  refine lv_iload_n hx hb (xld (by decide) rfl) rfl (lv_at hl 3 rfl) ?_
  refine lv_iconst (v := 2) hx hb (xld (by decide) rfl) rfl ?_
  refine lv_iadd hx hb (xld (by decide) rfl) ?_
  refine va_sld hx hb hX hbl hbA hS (by first | exact v1 | exact v2 | exact v3) (xld (by decide) rfl) ?_
  refine xl_callV (a := 100) (ix := 77) (k := 0) (As := [.int (xs (Int32.toNatClampNeg (nI k + 1))), .int (xs (Int32.toNatClampNeg (nI k + 2)))]) (M := (xSH, MI, ML, xmr Qf)) (rest := []) C0 (by decide) rfl rfl (by decide) xlw_100 (hop MI ML Qf hI) rfl (Nat.le_of_ble_eq_true rfl) (by decide) (xld (by decide) rfl) hP hz hS hl.1 ?_
  rintro _ H locs ⟨x, MI, ML, Qf, rfl, hop2⟩ hP hz hS
  refine lv_aload_n hx hb (xld (by decide) rfl) rfl (lv_at hl 2 rfl) ?_
  refine lv_aload_n hx hb (xld (by decide) rfl) rfl (lv_at hl 0 rfl) ?_
  refine lv_iload_n hx hb (xld (by decide) rfl) rfl (lv_at hl 3 rfl) ?_
  refine lv_iconst (v := 1) hx hb (xld (by decide) rfl) rfl ?_
  refine lv_iadd hx hb (xld (by decide) rfl) ?_
  refine va_sld hx hb hX hbl hbA hS (by first | exact v1 | exact v2 | exact v3) (xld (by decide) rfl) ?_
  refine lv_aload_n hx hb (xld (by decide) rfl) rfl (lv_at hl 0 rfl) ?_
  refine lv_iload_n hx hb (xld (by decide) rfl) rfl (lv_at hl 3 rfl) ?_
  refine lv_iconst (v := 2) hx hb (xld (by decide) rfl) rfl ?_
  refine lv_iadd hx hb (xld (by decide) rfl) ?_
  refine va_sld hx hb hX hbl hbA hS (by first | exact v1 | exact v2 | exact v3) (xld (by decide) rfl) ?_
  refine xl_callV (a := 164) (ix := 80) (k := 45) (As := [.int (xs (Int32.toNatClampNeg (nI k + 1))), .int (xs (Int32.toNatClampNeg (nI k + 2)))]) (M := (xSH, MI, ML, xmr Qf)) (rest := [.int x]) C0 (by decide) rfl rfl (by decide) xlw_164 hop2 rfl (Nat.le_of_ble_eq_true rfl) (by decide) (xld (by decide) rfl) hP hz hS hl.1 ?_
  rintro _ H locs ⟨MI, ML, Qf, rfl, hI⟩ hP hz hS
  refine lv_icmp_eq hx hb (xld (by decide) rfl) (tgt := 584) rfl (fun _ => ?_) (fun h => absurd rfl h)
  exact kk MI ML Qf H locs hI hP hz hS
set_option maxHeartbeats 2000000 in
theorem lc15 (C0 : xLC p s m meth c b0 L xs G D) (hL : L ≤ 2048) {Inv : (Nat → Nat → Int32) → (Nat → Nat → Int64) → (Nat → Nat) → Prop} {k : Nat} (hk : k + 4 ≤ L) {MI : Nat → Nat → Int32} {ML : Nat → Nat → Int64} {Qf : Nat → Nat} (hI : Inv MI ML Qf) (hP : va_P D xcl (xm_w s.heap.size G (xSH, MI, ML, xmr Qf)) H) (hz : H.size = s.heap.size + 68) (hS : va_S (fun q => s.heap.size ≤ q) s.heap H locs) (hl : lv_has ls 4 [(0, .ref b0), (1, .ref (s.heap.size + 0)), (2, .ref (s.heap.size + 45)), (3, .int (nI k))])
    (kk : ∀ (MI : Nat → Nat → Int32) (ML : Nat → Nat → Int64) (Qf : Nat → Nat) (H : Heap) (locs : List Loc), Inv MI ML Qf → va_P D xcl (xm_w s.heap.size G (xSH, MI, ML, xmr Qf)) H → H.size = s.heap.size + 68 → va_S (fun q => s.heap.size ≤ q) s.heap H locs → W p l e room_1 s m #[Value.ref b0] below meth c H locs 68 4200 Q (F0 m 584 ls [])) (hop : xOpL Inv 103 167 [.int (xs (Int32.toNatClampNeg (nI k + 1)))]) : W p l e room_1 s m #[Value.ref b0] below meth c H locs 68 4200 Q (F0 m 537 ls []) := by
  obtain ⟨hx, hb, hr, hml, hown, hts, hX, hbl, hlk, hgv⟩ := C0.1
  have hbA : ¬ (s.heap.size ≤ b0) := by omega
  have v1 : vp_in (nI k + 1) L := by rw [nI_1]; exact vp_in_nI (by omega) (by omega)
  have v2 : vp_in (nI k + 2) L := by rw [show (2 : Int32) = nI 2 from rfl, nI_add]; exact vp_in_nI (by omega) (by omega)
  have v3 : vp_in (nI k + 3) L := by rw [show (3 : Int32) = nI 3 from rfl, nI_add]; exact vp_in_nI (by omega) (by omega)
  refine lv_aload_n hx hb (xld (by decide) rfl) rfl (lv_at hl 1 rfl) ?_
  refine lv_aload_n hx hb (xld (by decide) rfl) rfl (lv_at hl 0 rfl) ?_
  refine lv_iload_n hx hb (xld (by decide) rfl) rfl (lv_at hl 3 rfl) ?_
  refine lv_iconst (v := 1) hx hb (xld (by decide) rfl) rfl ?_
  refine lv_iadd hx hb (xld (by decide) rfl) ?_
  refine va_sld hx hb hX hbl hbA hS (by first | exact v1 | exact v2 | exact v3) (xld (by decide) rfl) ?_
  refine xl_callV (a := 103) (ix := 81) (k := 0) (As := [.int (xs (Int32.toNatClampNeg (nI k + 1)))]) (M := (xSH, MI, ML, xmr Qf)) (rest := []) C0 (by decide) rfl rfl (by decide) xlw_103 (hop MI ML Qf hI) rfl (Nat.le_of_ble_eq_true rfl) (by decide) (xld (by decide) rfl) hP hz hS hl.1 ?_
  rintro _ H locs ⟨x, MI, ML, Qf, rfl, hop2⟩ hP hz hS
  refine lv_aload_n hx hb (xld (by decide) rfl) rfl (lv_at hl 2 rfl) ?_
  refine lv_aload_n hx hb (xld (by decide) rfl) rfl (lv_at hl 0 rfl) ?_
  refine lv_iload_n hx hb (xld (by decide) rfl) rfl (lv_at hl 3 rfl) ?_
  refine lv_iconst (v := 1) hx hb (xld (by decide) rfl) rfl ?_
  refine lv_iadd hx hb (xld (by decide) rfl) ?_
  refine va_sld hx hb hX hbl hbA hS (by first | exact v1 | exact v2 | exact v3) (xld (by decide) rfl) ?_
  refine xl_callV (a := 167) (ix := 84) (k := 45) (As := [.int (xs (Int32.toNatClampNeg (nI k + 1)))]) (M := (xSH, MI, ML, xmr Qf)) (rest := [.long x]) C0 (by decide) rfl rfl (by decide) xlw_167 hop2 rfl (Nat.le_of_ble_eq_true rfl) (by decide) (xld (by decide) rfl) hP hz hS hl.1 ?_
  rintro _ H locs ⟨MI, ML, Qf, rfl, hI⟩ hP hz hS
  refine W.lcmp hx hb (xld (by decide) rfl) ?_
  refine lv_if_eq hx hb (xld (by decide) rfl) (tgt := 584) rfl (fun _ => ?_) (fun h => absurd ((lg_cmp_eq x x).mpr rfl) h)
  exact kk MI ML Qf H locs hI hP hz hS
set_option maxHeartbeats 2000000 in
theorem lc16 (C0 : xLC p s m meth c b0 L xs G D) (hL : L ≤ 2048) {Inv : (Nat → Nat → Int32) → (Nat → Nat → Int64) → (Nat → Nat) → Prop} {k : Nat} (hk : k + 4 ≤ L) {MI : Nat → Nat → Int32} {ML : Nat → Nat → Int64} {Qf : Nat → Nat} (hI : Inv MI ML Qf) (hP : va_P D xcl (xm_w s.heap.size G (xSH, MI, ML, xmr Qf)) H) (hz : H.size = s.heap.size + 68) (hS : va_S (fun q => s.heap.size ≤ q) s.heap H locs) (hl : lv_has ls 4 [(0, .ref b0), (1, .ref (s.heap.size + 0)), (2, .ref (s.heap.size + 45)), (3, .int (nI k))])
    (kk : ∀ (MI : Nat → Nat → Int32) (ML : Nat → Nat → Int64) (Qf : Nat → Nat) (H : Heap) (locs : List Loc), Inv MI ML Qf → va_P D xcl (xm_w s.heap.size G (xSH, MI, ML, xmr Qf)) H → H.size = s.heap.size + 68 → va_S (fun q => s.heap.size ≤ q) s.heap H locs → W p l e room_1 s m #[Value.ref b0] below meth c H locs 68 4200 Q (F0 m 584 ls [])) (hop : xOpI Inv 105 168 [.int (xs (Int32.toNatClampNeg (nI k + 1)))]) : W p l e room_1 s m #[Value.ref b0] below meth c H locs 68 4200 Q (F0 m 561 ls []) := by
  obtain ⟨hx, hb, hr, hml, hown, hts, hX, hbl, hlk, hgv⟩ := C0.1
  have hbA : ¬ (s.heap.size ≤ b0) := by omega
  have v1 : vp_in (nI k + 1) L := by rw [nI_1]; exact vp_in_nI (by omega) (by omega)
  have v2 : vp_in (nI k + 2) L := by rw [show (2 : Int32) = nI 2 from rfl, nI_add]; exact vp_in_nI (by omega) (by omega)
  have v3 : vp_in (nI k + 3) L := by rw [show (3 : Int32) = nI 3 from rfl, nI_add]; exact vp_in_nI (by omega) (by omega)
  refine lv_aload_n hx hb (xld (by decide) rfl) rfl (lv_at hl 1 rfl) ?_
  refine lv_aload_n hx hb (xld (by decide) rfl) rfl (lv_at hl 0 rfl) ?_
  refine lv_iload_n hx hb (xld (by decide) rfl) rfl (lv_at hl 3 rfl) ?_
  refine lv_iconst (v := 1) hx hb (xld (by decide) rfl) rfl ?_
  refine lv_iadd hx hb (xld (by decide) rfl) ?_
  refine va_sld hx hb hX hbl hbA hS (by first | exact v1 | exact v2 | exact v3) (xld (by decide) rfl) ?_
  refine xl_callV (a := 105) (ix := 85) (k := 0) (As := [.int (xs (Int32.toNatClampNeg (nI k + 1)))]) (M := (xSH, MI, ML, xmr Qf)) (rest := []) C0 (by decide) rfl rfl (by decide) xlw_105 (hop MI ML Qf hI) rfl (Nat.le_of_ble_eq_true rfl) (by decide) (xld (by decide) rfl) hP hz hS hl.1 ?_
  rintro _ H locs ⟨x, MI, ML, Qf, rfl, hop2⟩ hP hz hS
  refine lv_aload_n hx hb (xld (by decide) rfl) rfl (lv_at hl 2 rfl) ?_
  refine lv_aload_n hx hb (xld (by decide) rfl) rfl (lv_at hl 0 rfl) ?_
  refine lv_iload_n hx hb (xld (by decide) rfl) rfl (lv_at hl 3 rfl) ?_
  refine lv_iconst (v := 1) hx hb (xld (by decide) rfl) rfl ?_
  refine lv_iadd hx hb (xld (by decide) rfl) ?_
  refine va_sld hx hb hX hbl hbA hS (by first | exact v1 | exact v2 | exact v3) (xld (by decide) rfl) ?_
  refine xl_callV (a := 168) (ix := 88) (k := 45) (As := [.int (xs (Int32.toNatClampNeg (nI k + 1)))]) (M := (xSH, MI, ML, xmr Qf)) (rest := [.int x]) C0 (by decide) rfl rfl (by decide) xlw_168 hop2 rfl (Nat.le_of_ble_eq_true rfl) (by decide) (xld (by decide) rfl) hP hz hS hl.1 ?_
  rintro _ H locs ⟨MI, ML, Qf, rfl, hI⟩ hP hz hS
  refine lv_icmp_eq hx hb (xld (by decide) rfl) (tgt := 584) rfl (fun _ => ?_) (fun h => absurd rfl h)
  exact kk MI ML Qf H locs hI hP hz hS
end LC
