import java.util.Arrays;
import java.util.function.Consumer;

/** The class and the slow model side by side: what one is asked, the other one is asked too. */
final class Both {
  private static final int MOST_CALLS = 512;
  private static final int MOST_TOLD = 20;

  private final Consumer<Both> start;
  private NextBench bench;
  private Model model;
  private int calls;
  private int wrong;

  /** They are made anew, and started so, whenever they have been asked as often as an object may be. */
  Both(Consumer<Both> start) {
    this.start = start;
    makeAnew();
  }

  private void makeAnew() {
    bench = new NextBench();
    model = new Model();
    calls = 0;
    start.accept(this);
  }

  long ask(String call, int... arguments) {
    if (calls >= MOST_CALLS) {
      makeAnew();
    }
    calls++;
    long got = Calls.ask(bench, call, arguments);
    long want = model.ask(call, arguments);
    if (got != want && wrong++ < MOST_TOLD) {
      System.out.println(call + Arrays.toString(arguments) + " answered " + got + ", the model " + want + " (room "
          + model.text + ", bear " + model.bear + ", worths " + Arrays.toString(model.worths) + ")");
    }
    return want;
  }

  void tell(String text) {
    ask("wipe");
    for (char sign : text.toCharArray()) {
      ask("say", sign);
    }
    ask("room");
  }

  Model model() {
    return model;
  }

  int callsLeft() {
    return MOST_CALLS - calls;
  }

  int wrong() {
    return wrong;
  }
}
