/** "What it is": one object goes through all that the class is for, in the order in which the document names it. */
final class WholeSentences implements Refusals {
  private WholeSentences() {
  }

  static void test(Sentences t) {
    NextBench x = new NextBench();
    rooms(t, x);
    sitters(t, x);
    howFull(t, x);
    byTurns(t, x);
    rowsArmsMinutes(t, x);
    seen(t, x);
  }

  private static void rooms(Sentences t, NextBench x) {
    t.sentence(Sentences.TERMS, "The next bench but one: a room of seats told as a small text, gaps and arm rests between, a row"
        + " or a ring;");
    Rooms.tell(x, "o-o|o");
    t.got(x.room(), x.far(0, 1), x.far(1, 2), x.far(2, 0)).due(3, 2, 99, 99);
    Rooms.tell(x, "o-o|o@");
    t.got(x.room(), x.far(0, 1), x.far(1, 2), x.far(2, 0)).due(3, 2, 3, 1);
    t.sentence(Sentences.TERMS, "how near none will bear another one;");
    Rooms.tell(x, "ooooo");
    t.got(x.room(), x.may(1), x.bear(3), x.may(1), x.bear(2), x.may(1)).due(5, 0b11100, 2, 0b11000, 3, 0b11100);
  }

  private static void sitters(Sentences t, NextBench x) {
    t.sentence(Sentences.TERMS, "who comes, by which habit each sits down;");
    t.got(x.come(3), x.come(0), x.sits(0), x.sits(1), x.takes(0b10000, 0)).due(0, 1, 4, 0, 0);
    t.sentence(Sentences.TERMS, "where each sits, till it is full;");
    t.got(x.come(5), x.come(2), x.sits(2), x.sits(3), x.fill(0, 0), x.takes(0b10101, 0)).due(2, 3, 2, NONE, 0b10101, NONE);
  }

  private static void howFull(Sentences t, NextBench x) {
    // two who leave no SEAT: 0 and 3, 1 and 3, 1 and 4
    t.sentence(Sentences.TERMS, "the fewest and most who can sit so that no more can, ways of being full counted;");
    t.got(x.whole(0), x.whole(2), x.whole(1), x.whole(3), x.ways(2), x.ways(3)).due(0b01001, 2, 0b10101, 3, 3, 1);
    t.sentence(Sentences.TERMS, "the mean and the odds of how many, if all lawful seats are alike;");
    t.got(x.mean(0), x.mean(1), x.odds(2, 0), x.odds(2, 1), x.odds(3, 0), x.odds(3, 1)).due(37, 15, 8, 15, 7, 15);
    t.sentence(Sentences.TERMS, "where the first should sit for most, for fewest;");
    t.got(x.first(0, 0), x.first(0, 2), x.first(0, 1), x.first(0, 3)).due(0, 3, 1, 2);
  }

  private static void byTurns(Sentences t, NextBench x) {
    t.sentence(Sentences.TERMS, "a kind one and a wicked one by turns;");
    t.got(x.game(0, 0, 0), x.game(0, 0, 1), x.game(0, 1, 0), x.game(0, 1, 1)).due(3, 2, 2, 1);
    t.sentence(Sentences.TERMS, "two that sit together;");
    t.got(x.pairs(0), x.pairs(1)).due(2, 2);
    t.sentence(Sentences.TERMS, "what is borne when late;");
    t.got(x.late(2, 2), x.late(2, 1)).due(3, 5);
  }

  private static void rowsArmsMinutes(Sentences t, NextBench x) {
    t.sentence(Sentences.TERMS, "rows of any length by the farthest rule;");
    t.got(x.rows(5, 1), x.rows(200, 0), x.longer(72)).due(2, 72, 200);
    t.sentence(Sentences.TERMS, "arm rests on told places so that most come in;");
    t.got(x.arms(0, 2, 0), x.arms(0, 2, 1), x.rests(1)).due(0b0011, 4, 0b0001);
    t.sentence(Sentences.TERMS, "minutes in which some come and some go;");
    t.got(x.minutes(0b00001, 0, 1, 2, 0), x.minutes(0b00001, 0, 1, 2, 1), x.minutes(0b00001, 0, 1, 0, 0),
        x.minutes(0b00001, 0, 1, 0, 1), x.away(0b10101, 0, 1, 0), x.away(0b10101, 0, 1, 1)).due(1, 2, 1, 2, 1, 2);
  }

  private static void seen(Sentences t, NextBench x) {
    t.sentence(Sentences.TERMS, "habits that fit what was seen;");
    t.got(x.begin(), x.see(0), x.see(4), x.fits(), x.judge(2), x.judge(0)).due(0, 1, 2, 0b100011, 1, NONE);
    t.sentence(Sentences.TERMS, "images.");
    t.got(x.image(0), x.bear(4), x.forget(), x.told(4), x.restore(0)).due(1, 2, 4, 0, 1);
    t.got(x.told(0), x.told(1), x.told(3), x.told(4), x.fits()).due(5, 2, 4, 1, 0b100011);
  }
}
