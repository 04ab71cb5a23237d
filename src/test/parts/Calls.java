/** The calls of NextBench by their names. */
final class Calls {
  static final String[] KINDS = {"say", "wipe", "fault", "room", "worth", "bear", "far", "may", "takes", "fill",
      "whole", "ways", "mean", "odds", "first", "game", "pairs", "late", "rows", "longer", "arms", "rests", "minutes",
      "away", "come", "forget", "sits", "begin", "see", "fits", "judge", "image", "restore", "told"};

  private Calls() {
  }

  static long ask(NextBench x, String call, int[] a) {
    switch (call) {
      case "say": return x.say(a[0]);
      case "wipe": return x.wipe();
      case "fault": return x.fault();
      case "room": return x.room();
      case "worth": return x.worth(a[0], a[1]);
      case "bear": return x.bear(a[0]);
      case "far": return x.far(a[0], a[1]);
      case "may": return x.may(a[0]);
      case "takes": return x.takes(a[0], a[1]);
      case "fill": return x.fill(a[0], a[1]);
      case "whole": return x.whole(a[0]);
      case "ways": return x.ways(a[0]);
      case "mean": return x.mean(a[0]);
      case "odds": return x.odds(a[0], a[1]);
      case "first": return x.first(a[0], a[1]);
      case "game": return x.game(a[0], a[1], a[2]);
      case "pairs": return x.pairs(a[0]);
      case "late": return x.late(a[0], a[1]);
      case "rows": return x.rows(a[0], a[1]);
      case "longer": return x.longer(a[0]);
      case "arms": return x.arms(a[0], a[1], a[2]);
      case "rests": return x.rests(a[0]);
      case "minutes": return x.minutes(a[0], a[1], a[2], a[3], a[4]);
      case "away": return x.away(a[0], a[1], a[2], a[3]);
      case "come": return x.come(a[0]);
      case "forget": return x.forget();
      case "sits": return x.sits(a[0]);
      case "begin": return x.begin();
      case "see": return x.see(a[0]);
      case "fits": return x.fits();
      case "judge": return x.judge(a[0]);
      case "image": return x.image(a[0]);
      case "restore": return x.restore(a[0]);
      default: return x.told(a[0]);
    }
  }
}
