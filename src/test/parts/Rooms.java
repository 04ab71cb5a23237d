/** Objects with a room that is told as a text. */
final class Rooms {
  private Rooms() {
  }

  static void tell(NextBench x, String text) {
    for (char sign : text.toCharArray()) {
      x.say(sign);
    }
  }

  static NextBench of(String text) {
    NextBench x = new NextBench();
    tell(x, text);
    x.room();
    return x;
  }

  static NextBench of(String text, int bear) {
    NextBench x = of(text);
    x.bear(bear);
    return x;
  }

  /** WORTHS are given to the first seats, one after another. */
  static NextBench worth(String text, int bear, int... worths) {
    NextBench x = of(text, bear);
    for (int seat = 0; seat < worths.length; seat++) {
      x.worth(seat, worths[seat]);
    }
    return x;
  }

  static int faultOf(String text) {
    NextBench x = new NextBench();
    tell(x, text);
    return x.fault();
  }
}
