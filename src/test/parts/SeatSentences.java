/** Promises 9 to 11: who sits where. */
final class SeatSentences implements Refusals {
  private SeatSentences() {
  }

  static void test(Sentences t) {
    may(t);
    filledSets(t);
    mayRefused(t);
    farAndSun(t);
    numbersAndNear(t);
    ends(t);
    likeOnes(t);
    takes(t);
    fill(t);
  }

  private static void may(Sentences t) {
    t.sentence(9, "a SEAT may be taken, if it is as far as BEAR or farther from all who sit.");
    t.got(Rooms.of("ooooooooo", 1).may(16), Rooms.of("ooooooooo", 2).may(16), Rooms.of("ooooooooo", 3).may(16),
        Rooms.of("ooooooooo", 4).may(16)).due(0b111101111, 0b111000111, 0b110000011, 0b100000001);
    t.got(Rooms.of("o-o", 2).may(1), Rooms.of("o-o", 3).may(1), Rooms.of("o--o", 3).may(2), Rooms.of("o--o", 4).may(2),
        Rooms.of("o---o", 4).may(1), Rooms.of("o|o", 4).may(1)).due(2, 0, 1, 0, 2, 2);
    t.got(Rooms.of("ooooooooo").may(0b100010001), Rooms.of("ooooooooo", 3).may(0b000100001)).due(0b001000100, 0b100000000);
    NextBench ring = Rooms.of(TWELVE + "@");
    t.got(ring.may(1), ring.may(1 << 11), ring.bear(4), ring.may(1), ring.bear(1), ring.may(1)).due(0b011111111100,
        0b001111111110, 2, 0b000111110000, 4, 0b111111111110);
    t.sentence(9, "SEATS that may be taken beside a set, as bits.");
    t.got(Rooms.of(TWELVE).may(0), new NextBench().may(0), new NextBench().may(1), Rooms.of("oo").may(2)).due(4095, 1, 0, 0);
    t.got(Rooms.of(TWELVE, 1).may(4095), Rooms.of(TWELVE, 1).may(2047), Rooms.of(TWELVE, 1).may(4094)).due(0, 2048, 1);
  }

  private static void filledSets(Sentences t) {
    t.sentence(9, "FILLED: a set of SEATS (bits) that could all be taken, one after another: each two of them as far as BEAR"
        + " or farther apart.");
    for (int bear = 1; bear <= 4; bear++) {
      NextBench row = Rooms.of(TWELVE, bear);
      NextBench ring = Rooms.of(TWELVE + "@", bear);
      for (int apart = 1; apart <= 5; apart++) {
        boolean filled = apart >= bear;
        t.got(Math.min(0, row.may(1 | 1 << apart)), Math.min(0, row.may(1 << 11 | 1 << 11 - apart)),
            Math.min(0, ring.may(1 | 1 << 12 - apart))).allDue(filled ? 0 : STATE);
      }
      t.got(row.may(0), Math.min(0, row.may(1 | 1 << 11)), Math.min(0, row.may(1 << 11))).due(4095, 0, 0);
    }
    NextBench three = Rooms.of("ooooo");
    t.got(three.may(0b10101), three.may(0b11001), three.may(0b10011)).due(0, STATE, STATE);
    t.sentence(9, "It is WHOLE, if no other SEAT may be taken.");
    t.got(three.may(0b10101), three.may(0b01001), three.may(0b10010), three.may(0b01010), three.may(0b10001)).due(0, 0, 0, 0,
        0b00100);
    t.got(three.takes(0b01001, 0), three.takes(0b10001, 0)).due(NONE, 2);
  }

  private static void mayRefused(Sentences t) {
    t.sentence(9, "OUTSIDE: bits of no SEAT");
    NextBench x = Rooms.of(TWELVE);
    t.got(x.may(4096), x.may(-1), x.may(LEAST_INT), x.may(MOST_INT), x.may(4096 | 1), x.may(1 << 30)).allDue(OUTSIDE);
    NextBench one = new NextBench();
    t.got(one.may(2), one.may(3), one.may(-1), one.may(LEAST_INT | 1)).allDue(OUTSIDE);
    NextBench five = Rooms.of("ooooo");
    t.got(five.may(16), five.may(32), five.may(33), five.may(64)).due(0b00111, OUTSIDE, OUTSIDE, OUTSIDE);
    t.sentence(9, "STATE: it is not FILLED.");
    t.got(x.may(3), x.may(4095), x.may(1 << 10 | 1 << 11), five.may(24)).allDue(STATE);
    t.got(five.may(3 | 32), x.may(3 | 4096), x.may(-2)).allDue(OUTSIDE);
  }

  private static void farAndSun(Sentences t) {
    t.sentence(10, "HABITS by which one takes a SEAT that may be taken (AWAY: how far it is from the nearest who sits; 99, if"
        + " nobody does)");
    NextBench nine = Rooms.of("ooooooooo");
    t.got(nine.takes(0b100000001, 0), nine.takes(0b000100001, 0), nine.takes(0b000100001, 4)).due(4, 8, 2);
    // with nobody there each SEAT is like one that no steps lead to, so the WORTH tells
    t.got(Rooms.worth("oo|o", 2, 0, 0, 1).takes(0, 0), Rooms.worth("oo|o", 2, 0, 1).takes(0, 0)).due(2, 1);
    t.got(Rooms.of("o-o|oo").takes(1, 0), Rooms.of("o-o|oo").takes(1, 4)).due(2, 1);

    t.sentence(10, "0 FAR: of most AWAY, of like ones of most WORTH");
    t.got(Rooms.worth("ooooo", 2, 0, 0, 0, 0, 1).takes(4, 0), Rooms.of("ooooo").takes(4, 0)).due(4, 0);
    t.got(Rooms.worth("oooooo", 2, 9, 0, 0, 0, 9).takes(4, 0), Rooms.worth("ooooo|o", 2, 0, 0, 9, 9, 9).takes(1, 0))
        .due(5, 5);
    t.got(Rooms.worth("ooo", 2, 8, 9, 8).takes(0, 0), Rooms.worth("ooo", 2, 0, 0, 9).takes(0, 0)).due(1, 2);
    t.got(Rooms.of("o" + "-".repeat(26) + "o-o").takes(2, 0), Rooms.of("o" + "-".repeat(27) + "oo", 1).takes(1, 0))
        .due(0, 2);

    t.sentence(10, "1 SUN: of most WORTH, of like ones of most AWAY");
    t.got(Rooms.worth("ooooo|o", 2, 0, 0, 1).takes(1, 1), Rooms.worth("ooooo|o", 2, 0, 0, 3, 0, 3).takes(1, 1)).due(2, 4);
    t.got(Rooms.worth("ooooo|o", 2, 9, 9, 8, 7, 8, 9).takes(1, 1), Rooms.worth("ooooo|o", 2, 9, 9, 8, 7, 8, 8).takes(1, 1))
        .due(5, 5);
    t.got(Rooms.of("ooooo|o").takes(1, 1), Rooms.of("ooooo").takes(4, 1)).due(5, 0);
  }

  private static void numbersAndNear(Sentences t) {
    t.sentence(10, "2 the least number; 3 the greatest number");
    NextBench x = Rooms.worth(TWELVE, 2, 0, 0, 0, 9);
    t.got(x.takes(0, 2), x.takes(0, 3), x.takes(1, 2), x.takes(1, 3), x.takes(1 << 11, 2), x.takes(1 << 11, 3)).due(0, 11, 2,
        11, 0, 9);
    NextBench ring = Rooms.of(TWELVE + "@");
    t.got(ring.takes(1, 3), ring.takes(1 << 11, 2)).due(10, 1);
    t.sentence(10, "4 NEAR: of least AWAY");
    t.got(x.takes(0, 4), x.takes(1, 4), x.takes(1 << 11, 4), x.takes(1 << 6, 4)).due(0, 2, 9, 4);
    t.got(Rooms.worth("ooooo", 2, 0, 0, 0, 0, 9).takes(4, 4), Rooms.of("oo|oo-o").takes(1, 4), Rooms.of("o|o-o").takes(1, 4))
        .due(0, 2, 1);
    t.got(Rooms.of("o|ooo").takes(2, 4), Rooms.of("ooo", 1).takes(4, 4), Rooms.of("o-oo", 1).takes(4, 4)).due(3, 1, 1);
  }

  private static void ends(Sentences t) {
    t.sentence(10, "5 END: with the fewest SEATS 1 apart from it (taken or not), of like ones of most AWAY");
    NextBench x = Rooms.of("o-ooo");
    t.got(x.takes(0, 5), x.takes(1, 5), x.takes(0b1001, 5)).due(0, 3, 1);
    // the one who sits is 1 apart from seat 1, and counts
    t.got(Rooms.of("oo|oo", 1).takes(1, 5), Rooms.of("ooooooo", 1).takes(0b1000010, 5)).due(2, 0);
    // none beside it weighs more than 99 AWAY
    t.got(Rooms.of("o-o|oo").takes(1, 5), Rooms.worth("oo-o", 2, 9, 9, 0).takes(0, 5)).due(1, 2);
    t.got(Rooms.of("oo@").takes(0, 5), Rooms.of("oooo-@").takes(0, 5), Rooms.of("oo|oo@").takes(0, 5)).due(0, 0, 1);
    t.got(Rooms.of("o--oo@").takes(0, 5), Rooms.of("ooo@", 1).takes(1, 5), Rooms.of(TWELVE + "@").takes(1, 5)).due(0, 1, 6);
  }

  private static void likeOnes(Sentences t) {
    t.sentence(10, "of like ones always the least number.");
    NextBench ring = Rooms.of(TWELVE + "@");
    for (int habit = 0; habit < 6; habit++) {
      t.got(ring.takes(0, habit)).due(habit == 3 ? 11 : 0);
    }
    NextBench row = Rooms.of("ooooooo");
    t.got(row.takes(8, 0), row.takes(8, 1), row.takes(8, 4), row.takes(8, 5)).due(0, 0, 1, 0);
    NextBench worths = Rooms.worth("ooooooo", 2, 1, 9, 9, 0, 9, 9, 1);
    t.got(worths.takes(0, 0), worths.takes(0, 1), worths.takes(8, 0), worths.takes(8, 1)).due(1, 1, 0, 1);
  }

  private static void takes(Sentences t) {
    t.sentence(10, "The SEAT that one takes by a HABIT; NONE: it is WHOLE.");
    NextBench five = Rooms.of("ooooo");
    NextBench one = new NextBench();
    NextBench all = Rooms.of(TWELVE, 1);
    for (int habit = 0; habit < 6; habit++) {
      t.got(five.takes(0b10101, habit), five.takes(0b01001, habit), five.takes(0b10001, habit)).due(NONE, NONE, 2);
      t.got(one.takes(0, habit), one.takes(1, habit), all.takes(4095, habit), all.takes(2047, habit), all.takes(4094, habit))
          .due(0, NONE, NONE, 11, 0);
    }
    t.sentence(10, "OUTSIDE: also HABIT 0 to 5; STATE, likewise.");
    t.got(five.takes(0, -1), five.takes(0, 6), five.takes(0, LEAST_INT), five.takes(0, MOST_INT), five.takes(32, 0),
        five.takes(-1, 5), five.takes(3, 6), five.takes(3, -1), five.takes(35, 0), five.takes(0b10101, 6)).allDue(OUTSIDE);
    t.got(five.takes(3, 0), five.takes(24, 5), all.bear(2), all.takes(4095, 2)).due(STATE, STATE, 1, STATE);
  }

  private static void fill(Sentences t) {
    t.sentence(11, "The WHOLE set to which it comes by a HABIT.");
    NextBench seven = Rooms.of("ooooooo");
    t.got(seven.fill(0, 0), seven.fill(0, 1), seven.fill(0, 2), seven.fill(0, 3), seven.fill(0, 4), seven.fill(0, 5))
        .due(0b1001001, 0b1001001, 0b1010101, 0b1010101, 0b1010101, 0b1001001);
    NextBench one = new NextBench();
    NextBench all = Rooms.of(TWELVE, 1);
    NextBench apart = Rooms.of("o|o|o|o|o|o|o|o|o|o|o|o", 4);
    for (int habit = 0; habit < 6; habit++) {
      t.got(one.fill(0, habit), one.fill(1, habit), all.fill(0, habit), all.fill(4095, habit), apart.fill(0, habit)).due(1, 1,
          4095, 4095, 4095);
    }
    // in a ring the last one is beside the first one
    NextBench ring = Rooms.of(TWELVE + "@");
    t.got(ring.fill(0, 0), ring.fill(0, 2), ring.fill(0, 3), ring.fill(1, 3), ring.fill(1 << 11, 2)).due(0b001001001001,
        0b010101010101, 0b101010101010, 0b010101010101, 0b101010101010);
    t.sentence(11, "By a HABIT from a FILLED set on all come till it is WHOLE.");
    t.got(seven.fill(4, 0), seven.fill(2, 2), seven.fill(0b0100000, 3), seven.fill(0b1010101, 4), seven.fill(0b0100101, 0))
        .due(0b1010101, 0b0101010, 0b0101010, 0b1010101, 0b0100101);
    for (int habit = 0; habit < 6; habit++) {
      for (int set : new int[] {0, 1, 2, 4, 8, 64, 0b1000001, 0b0100100}) {
        t.got(seven.may(seven.fill(set, habit)), seven.fill(set, habit) & set).due(0, set);
      }
    }
    t.sentence(11, "OUTSIDE, STATE, likewise.");
    t.got(seven.fill(0, -1), seven.fill(0, 6), seven.fill(128, 0), seven.fill(-1, 0), seven.fill(LEAST_INT, 0),
        seven.fill(3, 6), seven.fill(128 | 3, 0)).allDue(OUTSIDE);
    t.got(seven.fill(3, 0), seven.fill(0b1100000, 5), seven.fill(127, 2)).allDue(STATE);
  }
}
