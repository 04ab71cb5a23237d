/** Promises 26 to 35: comers, what was seen, images, what is told. */
final class SeenSentences implements Refusals {
  private SeenSentences() {
  }

  static void test(Sentences t) {
    come(t);
    forget(t);
    sits(t);
    begin(t);
    see(t);
    seeRefused(t);
    fits(t);
    judge(t);
    image(t);
    restore(t);
    restoreRefused(t);
    told(t);
  }

  private static void come(Sentences t) {
    t.sentence(26, "A COMER more: the number.");
    NextBench x = new NextBench();
    for (int comer = 0; comer < 12; comer++) {
      t.got(x.come(comer % 6), x.told(3)).due(comer, comer + 1);
    }
    t.sentence(26, "OUTSIDE: HABIT; FULL.");
    NextBench y = new NextBench();
    t.got(y.come(-1), y.come(6), y.come(LEAST_INT), y.come(MOST_INT)).allDue(OUTSIDE);
    t.got(y.told(3), y.come(0), y.come(5), y.told(3)).due(0, 0, 1, 2);
    t.got(x.come(0), x.come(5)).allDue(FULL);
    t.got(x.come(-1), x.come(6)).allDue(OUTSIDE);
    t.got(x.told(3), x.sits(11), x.sits(12)).due(12, NONE, UNKNOWN);
  }

  private static void forget(Sentences t) {
    t.sentence(27, "COMERS are forgotten: how many there were.");
    NextBench x = Rooms.of("ooo");
    t.got(x.forget(), x.come(2), x.forget(), x.forget(), x.told(3), x.sits(0)).due(0, 0, 1, 0, 0, UNKNOWN);
    for (int comer = 0; comer < 12; comer++) {
      x.come(2);
    }
    t.got(x.come(3), x.forget(), x.told(3), x.come(3), x.sits(0), x.sits(1)).due(FULL, 12, 0, 0, 2, UNKNOWN);
  }

  private static void sits(Sentences t) {
    t.sentence(28, "COMERS, 12 at most, each with a HABIT, come one after another into the empty ROOM: where each sits, or is"
        + " turned away.");
    NextBench x = Rooms.of("ooooo");
    t.got(x.come(3), x.come(2), x.come(0), x.come(4), x.come(5)).due(0, 1, 2, 3, 4);
    t.got(x.sits(0), x.sits(1), x.sits(2), x.sits(3), x.sits(4)).due(4, 0, 2, NONE, NONE);
    NextBench all = Rooms.of(TWELVE, 1);
    for (int comer = 0; comer < 12; comer++) {
      all.come(3);
    }
    for (int comer = 0; comer < 12; comer++) {
      t.got(all.sits(comer)).due(11 - comer);
    }
    NextBench ring = Rooms.of(TWELVE + "@");
    t.got(ring.come(2), ring.come(3), ring.come(4), ring.sits(0), ring.sits(1), ring.sits(2)).due(0, 1, 2, 0, 10, 2);
    NextBench one = new NextBench();
    for (int habit = 0; habit < 6; habit++) {
      t.got(one.come(habit), one.sits(0), habit == 0 ? NONE : one.sits(habit)).due(habit, 0, NONE);
    }
    t.sentence(28, "Where a COMER sits; NONE: is turned away.");
    t.got(x.bear(4), x.sits(1), x.sits(2), x.bear(1), x.sits(2), x.sits(3), x.sits(4)).due(2, 0, NONE, 4, 2, 1, 3);
    t.got(x.worth(0, 9), x.come(1), x.forget(), x.come(1), x.sits(0), x.come(1), x.sits(1)).due(0, 5, 6, 0, 0, 1, 4);
    t.sentence(28, "UNKNOWN.");
    t.got(x.sits(2), x.sits(-1), x.sits(LEAST_INT), x.sits(MOST_INT), x.sits(12), new NextBench().sits(0)).allDue(UNKNOWN);
    t.got(all.sits(11), all.sits(12), all.sits(-1)).due(0, UNKNOWN, UNKNOWN);
  }

  private static void begin(Sentences t) {
    t.sentence(29, "A row more is SEEN (empty at first): its number.");
    NextBench x = Rooms.of("ooo");
    for (int row = 0; row < 8; row++) {
      t.got(x.begin(), x.told(4), x.fits()).due(row, row + 1, 63);
    }
    t.sentence(29, "FULL.");
    t.got(x.begin(), x.begin(), x.told(4), x.see(1), x.judge(2)).due(FULL, FULL, 8, 1, 700);
    t.sentence(29, "(12 at most in a row, 8 rows; a SEAT that may not be taken then is refused).");
    t.got(x.begin(), x.see(1), x.see(0), x.bear(1), x.begin()).due(FULL, NO, NO, 2, 0);
  }

  private static void see(Sentences t) {
    t.sentence(30, "A SEAT was taken in the last row: how many there are in it.");
    NextBench x = Rooms.of("ooooo");
    t.got(x.begin(), x.see(0), x.see(4), x.begin(), x.see(0), x.see(2), x.see(4), x.begin(), x.see(4)).due(0, 1, 2, 1, 1, 2, 3,
        2, 1);
    t.got(x.judge(2), x.judge(0), x.judge(3)).due(1, 101, 0);
    t.sentence(30, "SEEN: rows of SEATS that were taken one after another, told SEAT by SEAT");
    NextBench all = Rooms.of(TWELVE, 1);
    all.begin();
    for (int seat = 11; seat >= 0; seat--) {
      t.got(all.see(seat)).due(12 - seat);
    }
    t.got(all.judge(3), all.judge(2), all.fits()).due(NONE, 0, 8);
    for (int seat = 0; seat < 12; seat++) {
      t.got(all.see(seat)).due(NO);
    }
    t.got(all.see(12), all.begin(), all.see(0)).due(UNKNOWN, 1, 1);
  }

  private static void seeRefused(Sentences t) {
    t.sentence(30, "UNKNOWN; STATE: there is no row");
    NextBench x = Rooms.of(TWELVE + "@", 3);
    t.got(x.see(0), x.see(11)).allDue(STATE);
    t.got(x.see(12), x.see(-1), x.see(LEAST_INT), x.see(MOST_INT)).allDue(UNKNOWN);
    t.sentence(30, "NO: it may not be taken then.");
    x.begin();
    t.got(x.see(0), x.see(0), x.see(1), x.see(2), x.see(11), x.see(10), x.see(9), x.see(3), x.see(6), x.see(4)).due(1, NO, NO,
        NO, NO, NO, 2, 3, 4, NO);
    t.got(x.see(12), x.see(-1), x.told(4), x.judge(2)).due(UNKNOWN, UNKNOWN, 1, 1);
    NextBench row = Rooms.of(TWELVE, 4);
    t.got(row.begin(), row.see(11), row.see(8), row.see(7), row.see(0), row.see(4), row.see(3)).due(0, 1, NO, 2, 3, NO,
        NO);
    NextBench one = new NextBench();
    t.got(one.see(0), one.see(1), one.begin(), one.see(1), one.see(0), one.see(0)).due(STATE, UNKNOWN, 0, UNKNOWN, 1, NO);
  }

  private static void fits(Sentences t) {
    t.sentence(31, "HABITS that FIT: by which each SEAT of each row would have been taken");
    NextBench x = Rooms.of("ooooo");
    t.got(x.fits(), x.begin(), x.fits(), x.see(0), x.fits(), x.see(4), x.fits()).due(63, 0, 63, 1, 0b110111, 2, 0b100011);
    t.got(x.begin(), x.fits(), x.see(4), x.fits()).due(1, 0b100011, 1, 0);
    NextBench ring = Rooms.of(TWELVE + "@");
    t.got(ring.begin(), ring.see(11), ring.see(0), ring.see(9), ring.fits(), ring.see(1), ring.fits()).due(0, 1, NO, 2, 8, 3, 0);
    t.sentence(31, "HABITS that FIT, as bits.");
    // one by one: FAR, SUN, the least, the greatest, NEAR, END
    t.got(fitting("ooooooo", new int[] {0, 0, 9, 0, 8}, 2, 6), fitting("ooooo", new int[] {0, 5, 0, 0, 9}, 4, 1),
        fitting("oo---o-o-@", new int[] {0, 1}, 0, 2), fitting("ooo", new int[] {9}, 2),
        fitting("oo---o-o-@", new int[] {0, 1}, 0, 3), fitting("oo-o", new int[] {0, 9}, 2, 0)).due(1, 2, 4, 8, 16, 32);
    t.got(fitting("ooo|o", new int[] {0, 0, 1}, 0, 2, 3), fitting("oo|o", new int[] {9}, 2), fitting("ooo", new int[] {}, 0, 2),
        fitting("ooo", new int[] {}, 1), new NextBench().fits()).due(0b010100, 0b101000, 0b110111, 0, 63);
  }

  private static int fitting(String text, int[] worths, int... seen) {
    NextBench x = Rooms.worth(text, 2, worths);
    x.begin();
    for (int seat : seen) {
      x.see(seat);
    }
    return x.fits();
  }

  private static void judge(Sentences t) {
    t.sentence(32, "JUDGED by a HABIT: the first row and SEAT in it that would not.");
    NextBench x = Rooms.of("ooooo");
    t.got(x.begin(), x.see(0), x.see(2), x.see(4), x.judge(2), x.judge(4), x.judge(0), x.judge(3)).due(0, 1, 2, 3, NONE, NONE,
        1, 0);
    t.got(x.begin(), x.begin(), x.see(0), x.see(3), x.judge(2), x.judge(0)).due(1, 2, 1, 2, 201, 1);
    t.got(x.begin(), x.see(1), x.judge(2), x.judge(3)).due(3, 1, 201, 0);
    t.sentence(32, "JUDGED by a HABIT: 100 times the row, and the place in it (from 0 on); NONE: it FITS.");
    // of 12 the last one in a row has no choice, so 10 is the last place that can be wrong
    NextBench all = Rooms.of(TWELVE, 1);
    for (int row = 0; row < 8; row++) {
      all.begin();
    }
    for (int seat = 0; seat < 10; seat++) {
      all.see(seat);
    }
    t.got(all.judge(2), all.see(11), all.judge(2), all.judge(4), all.judge(3), all.see(10), all.judge(2)).due(NONE, 11, 710,
        710, 700, 12, 710);
    NextBench none = new NextBench();
    for (int habit = 0; habit < 6; habit++) {
      t.got(none.judge(habit), x.judge(habit) >= 0 ? 0 : 1).due(NONE, 0);
    }
    t.sentence(32, "OUTSIDE.");
    t.got(x.judge(-1), x.judge(6), x.judge(LEAST_INT), x.judge(MOST_INT), none.judge(6), none.judge(-1)).allDue(OUTSIDE);
  }

  private static NextBench full() {
    NextBench x = Rooms.worth("o-oo|o@", 3, 1, 2, 3, 4);
    x.come(1);
    x.come(3);
    x.begin();
    x.see(3);
    x.begin();
    x.see(0);
    x.see(2);
    return x;
  }

  private static void isFull(Sentences t, NextBench x) {
    t.got(x.told(0), x.told(1), x.told(3), x.told(4), x.told(10), x.told(11), x.told(12), x.told(13)).due(4, 3, 2, 2, 1, 2, 3,
        4);
    t.got(x.far(0, 3), x.far(2, 3), x.far(0, 2), x.sits(0), x.sits(1), x.judge(1), x.judge(2)).due(1, 4, 3, 3, 2, 100, 0);
    t.got(x.whole(1), x.ways(2), x.mean(0), x.game(0, 1, 0), x.see(0), x.may(1)).due(0b0101, 3, 2, 2, NO, 0b0100);
  }

  private static void image(Sentences t) {
    t.sentence(33, "ROOM, WORTHS, BEAR, COMERS, what is SEEN are kept in an IMAGE (0, 1): 1.");
    for (int n = 0; n < 2; n++) {
      NextBench x = full();
      isFull(t, x);
      t.got(x.image(n), x.image(n)).due(1, 1);
      isFull(t, x);
      t.got(x.worth(0, 9), x.forget(), x.bear(1), x.say('o'), x.room(), x.restore(n)).due(1, 2, 3, 1, 1, 1);
      isFull(t, x);
    }
    NextBench fresh = new NextBench();
    t.got(fresh.image(1), fresh.bear(4), fresh.come(0), fresh.begin(), fresh.worth(0, 3), fresh.restore(1)).due(1, 2, 0, 0, 0,
        1);
    t.got(fresh.told(0), fresh.told(1), fresh.told(3), fresh.told(4), fresh.told(10), fresh.come(1), fresh.sits(0)).due(1, 2, 0,
        0, 0, 0, 0);
    t.sentence(33, "OUTSIDE.");
    t.got(fresh.image(-1), fresh.image(2), fresh.image(LEAST_INT), fresh.image(MOST_INT)).allDue(OUTSIDE);
    t.got(fresh.restore(0), fresh.restore(1)).due(STATE, 1);
  }

  private static void restore(Sentences t) {
    t.sentence(34, "They are as they were when it was kept: 1.");
    NextBench x = full();
    t.got(x.image(0), x.see(1), x.forget(), x.come(5), x.worth(3, 0), x.image(1)).due(1, NO, 2, 0, 4, 1);
    t.got(x.restore(0), x.told(3), x.told(13), x.restore(1), x.told(3), x.told(13), x.restore(0)).due(1, 2, 4, 1, 1, 0, 1);
    isFull(t, x);
    // what comes behind does not go into the IMAGE
    t.got(x.begin(), x.see(0), x.come(2), x.worth(2, 0), x.bear(1), x.restore(0)).due(2, 1, 2, 3, 3, 1);
    isFull(t, x);
    // other rows that come in between, longer and shorter ones, leave the kept rows as they were
    t.got(x.bear(1), x.begin(), x.see(1), x.see(2), x.see(0), x.see(3), x.begin(), x.begin(), x.restore(0)).due(3, 0, 1, 2, 3, 4,
        1, 2, 1);
    isFull(t, x);
    // a row of the IMAGE goes on where it was
    t.got(x.bear(1), x.restore(0), x.begin(), x.see(2), x.see(0), x.see(3)).due(3, 1, 2, 1, 2, NO);
    // the pad is none of these
    t.got(x.say('o'), x.say('o'), x.restore(0), x.told(2), x.fault(), x.room(), x.told(0), x.restore(0)).due(1, 2, 1, 2, NONE, 2,
        2, 1);
    isFull(t, x);
    restoreAll(t);
  }

  /** As much as an IMAGE can hold; then the same places are written over with other numbers. */
  private static void restoreAll(Sentences t) {
    NextBench x = Rooms.of(TWELVE, 1);
    for (int i = 0; i < 12; i++) {
      x.come(i % 6);
      x.worth(i, 9);
    }
    seeUpwards(x, 7, 10);
    t.got(x.game(0, 0, 0), x.whole(3), x.mean(0), x.image(1)).due(12, 12, 12, 1);
    t.got(x.forget(), x.bear(4), x.worth(11, 0)).due(12, 1, 9);
    for (int i = 0; i < 12; i++) {
      x.come(2);
    }
    t.got(x.bear(2), x.game(0, 0, 0), x.whole(2), x.restore(1)).due(4, 6, 4, 1);
    t.got(x.told(0), x.told(1), x.told(3), x.told(4), x.told(21), x.come(0), x.begin(), x.see(11)).due(12, 1, 12, 8, 9, FULL,
        FULL, NO);
    t.got(x.judge(2), x.judge(3), x.judge(5), x.sits(11), x.game(0, 0, 0), x.whole(3), x.mean(0)).due(710, 0, 1, 7, 12, 12, 12);
    for (int row = 0; row < 8; row++) {
      for (int place = 0; place < 12; place++) {
        restoreSeen(t, row, place);
      }
    }
  }

  /** In 8 rows of 12 one SEAT is not the least number (but for the last of a row, which has no choice). */
  private static void restoreSeen(Sentences t, int row, int place) {
    NextBench x = Rooms.of(TWELVE, 1);
    seeUpwards(x, row, place);
    long due = place < 11 ? 100 * row + place : NONE;
    t.got(x.judge(2), x.image(0), x.bear(2), x.bear(1)).due(due, 1, 1, 2);
    for (int other = 0; other < 8; other++) {
      x.begin();
      for (int seat = 11; seat >= 0; seat--) {
        x.see(seat);
      }
    }
    t.got(x.judge(3), x.restore(0), x.judge(2), x.told(4)).due(NONE, 1, due, 8);
  }

  /** Eight rows of all SEATS from 0 on; in one row one SEAT and the next one are the other way round. */
  private static void seeUpwards(NextBench x, int turnedRow, int turnedPlace) {
    for (int row = 0; row < 8; row++) {
      x.begin();
      for (int place = 0; place < 12; place++) {
        boolean turned = row == turnedRow && turnedPlace < 11;
        x.see(turned && place == turnedPlace ? place + 1 : turned && place == turnedPlace + 1 ? place - 1 : place);
      }
    }
  }

  private static void restoreRefused(Sentences t) {
    t.sentence(34, "OUTSIDE; STATE: it was not.");
    NextBench x = Rooms.of("oo");
    t.got(x.restore(0), x.restore(1), x.image(0), x.restore(1), x.restore(0), x.image(1), x.restore(1)).due(STATE, STATE, 1,
        STATE, 1, 1, 1);
    t.got(x.restore(-1), x.restore(2), x.restore(LEAST_INT), x.restore(MOST_INT), new NextBench().restore(2)).allDue(OUTSIDE);
  }

  private static void told(Sentences t) {
    t.sentence(35, "0 SEATS, 1 BEAR, 2 signs, 3 COMERS, 4 rows SEEN, 10 to 21 WORTHS (NONE).");
    NextBench x = Rooms.worth("ooo", 3, 7, 0, 9);
    t.got(x.say('x'), x.say('o'), x.come(0), x.begin(), x.begin()).due(1, 2, 0, 0, 1);
    t.got(x.told(0), x.told(1), x.told(2), x.told(3), x.told(4)).due(3, 3, 2, 1, 2);
    t.got(x.told(10), x.told(11), x.told(12), x.told(13), x.told(21)).due(7, 0, 9, NONE, NONE);
    NextBench all = Rooms.of(TWELVE);
    for (int seat = 0; seat < 12; seat++) {
      t.got(all.worth(seat, 9 - seat % 10), all.told(10 + seat)).due(0, 9 - seat % 10);
    }
    t.got(all.say('o'), all.room(), all.told(10), all.told(11), all.told(21)).due(1, 1, 0, NONE, NONE);
    t.sentence(35, "OUTSIDE.");
    t.got(x.told(-1), x.told(5), x.told(9), x.told(22), x.told(LEAST_INT), x.told(MOST_INT)).allDue(OUTSIDE);
  }
}
