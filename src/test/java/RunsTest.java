import java.util.ArrayList;
import java.util.List;
import java.util.function.LongSupplier;

/**
 * Runs of up to 512 calls of one object, made by a fixed rule, with nodes made, searches begun and
 * left and the store cleared between one another, and with wrong arguments; each answer is held
 * against the one of a twin that keeps no more than the document's words ask for.
 */
public final class RunsTest extends Due {
  private static final int MOST_CALLS = 512;
  private static final int MOST_NODES = 60;

  /** What the object ought to hold: its nodes, and how far the latest SEARCH has come. */
  private static final class Twin {
    Model model = new Model();
    List<Model.Place> places;
    int come;
    int[] ends = new int[6];
    Model.Place latest;

    int size() {
      return model.nodes.size();
    }

    private boolean has(int n) {
      return n >= 0 && n < size();
    }

    private static boolean among(int k, int first, int last) {
      return k >= first && k <= last;
    }

    private boolean suits(int[] node) {
      switch (node[0]) {
        case 0: case 2: return true;
        case 4: case 5: return has(node[1]);
        case 6: return has(node[1]) && has(node[2]) && among(node[3], 0, 5);
        case 7: return has(node[1]) && has(node[2]) && has(node[3]);
        case 8: return has(node[1]) && among(node[2], 0, size());
        case 9: return has(node[1]) && among(node[2], 0, 2);
        default: return has(node[1]) && has(node[2]);
      }
    }

    String make(int[] node, long number) {
      if (!suits(node)) return ARGUMENT;
      return size() == MOST_NODES ? "-1" : String.valueOf(model.add(node, number));
    }

    private void noSearch() {
      places = null;
      come = 0;
      ends = new int[6];
      latest = null;
    }

    String clear() {
      int were = size();
      model = new Model();
      noSearch();
      return String.valueOf(were);
    }

    String node(int n, int what) {
      return has(n) && among(what, 0, 3) ? String.valueOf(model.nodes.get(n)[what]) : ELEMENT;
    }

    String ask(int n, int mode, int bound) {
      if (!has(n) || !among(mode, 0, 2) || !among(bound, 1, 60)) return ARGUMENT;
      noSearch();
      places = model.places(n, mode, bound);
      return "0";
    }

    String next() {
      if (places == null) return STATE;
      while (come < Math.min(200, places.size())) {
        Model.Place place = places.get(come++);
        ends[place.end]++;
        if (place.end == Model.VALUE) {
          latest = place;
          return "1";
        }
      }
      return come < places.size() ? "2" : "0";
    }

    boolean isAtEnd() {
      return places == null || come == Math.min(200, places.size());
    }

    String decision(int k) {
      return latest != null && among(k, 0, latest.alternatives.size() - 1) ? String.valueOf(latest.alternatives.get(k)) : "-1";
    }

    String token(int k, int what) {
      boolean there = latest != null && among(k, 0, latest.tokens.size() - 1) && among(what, 0, 1);
      return there ? String.valueOf(latest.tokens.get(k)[what]) : ELEMENT;
    }

    String count(int what) {
      switch (what) {
        case 0: return String.valueOf(size());
        case 1: return String.valueOf(come);
        case 2: case 3: case 4: case 5: return String.valueOf(ends[what]);
        case 6: return String.valueOf(latest == null ? 0 : latest.labour);
        case 7: return String.valueOf(latest == null ? 0 : latest.alternatives.size());
        case 8: return String.valueOf(latest == null ? 0 : latest.tokens.size());
        default: return "-1";
      }
    }
  }

  private static Stores stores = new Stores(7);
  private static SharedChoices x;
  private static Twin twin;
  private static int run;
  private static final List<String> calls = new ArrayList<>();
  private static boolean told = false;
  /** How often each answer of next was due, then how often an exception of another call. */
  private static final int[] seen = new int[4];

  /** An argument, wrong now and then: just past one of its ends, or far off. */
  private static int some(int first, int last) {
    switch (stores.below(40)) {
      case 0: return first - 1;
      case 1: return last + 1;
      case 2: return stores.below(2) == 0 ? Integer.MIN_VALUE : Integer.MAX_VALUE;
      default: return last < first ? first : first + stores.below(last - first + 1);
    }
  }

  private static void call(String words, String want, LongSupplier call) {
    String got;
    try {
      got = String.valueOf(call.getAsLong());
    } catch (RuntimeException e) {
      got = e.getClass().getSimpleName();
    }
    calls.add(words + " " + want);
    if (want.endsWith("Exception")) seen[3]++;
    if (!got.equals(want) && !told) {
      told = true;
      System.out.println("the run up to the first wrong answer: " + calls);
    }
    dueText("run " + run + ", call " + calls.size() + ", " + words, got, want);
  }

  private static void make() {
    if (twin.size() == MOST_NODES || stores.below(15) == 0) makeInVain();
    else made(stores.node(), stores.number());
  }

  /** A call that makes no node, since an argument of it is wrong or there are 60. */
  private static void makeInVain() {
    int last = twin.size() - 1;
    int[] node = {stores.below(10), some(0, last), some(0, last), some(0, last)};
    if (node[0] == 6) node[3] = some(0, 5);
    if (node[0] == 8) node[2] = some(0, twin.size());
    if (node[0] == 9) node[2] = some(0, 2);
    if (twin.size() == MOST_NODES || !twin.suits(node)) made(node, stores.number());
  }

  private static void made(int[] node, long number) {
    String words = "make " + node[0] + " " + node[1] + " " + node[2] + " " + node[3] + " of " + number + ":";
    call(words, twin.make(node, number), () -> Stores.make(x, node, number));
  }

  private static void ask() {
    int n = stores.below(3) == 0 ? some(0, twin.size() - 1) : some(Math.max(0, twin.size() - 4), twin.size() - 1);
    int mode = some(0, 2);
    int bound = some(1, stores.below(4) == 0 ? 60 : 5);
    String want = twin.ask(n, mode, bound);
    call("ask(" + n + ", " + mode + ", " + bound + ")", want, () -> {
      x.ask(n, mode, bound);
      return 0;
    });
  }

  private static void next() {
    String want = twin.next();
    if (want.length() == 1) seen[want.charAt(0) - '0']++;
    call("next()", want, () -> x.next());
  }

  private static void tell() {
    int k = some(0, twin.latest == null ? 0 : Math.max(twin.latest.tokens.size(), twin.latest.alternatives.size()) - 1);
    int what = some(0, 1);
    if (stores.below(3) == 0) call("decision(" + k + ")", twin.decision(k), () -> x.decision(k));
    else call("token(" + k + ", " + what + ")", twin.token(k, what), () -> x.token(k, what));
  }

  private static void look() {
    int n = some(0, twin.size() - 1);
    int what = some(0, 3);
    int counted = some(0, 8);
    if (stores.below(3) == 0) call("node(" + n + ", " + what + ")", twin.node(n, what), () -> x.node(n, what));
    else call("count(" + counted + ")", twin.count(counted), () -> x.count(counted));
  }

  private static void clear() {
    stores.begin();
    call("clear()", twin.clear(), () -> x.clear());
  }

  private static void dueRun() {
    stores.begin();
    x = new SharedChoices();
    twin = new Twin();
    calls.clear();
    int wanted = 3 + stores.below(58);
    int patience = 1 + stores.below(40);
    while (calls.size() < MOST_CALLS) {
      int pick = stores.below(24);
      if (pick < 18 && twin.size() < wanted) make();
      else if (pick < 8 && (twin.isAtEnd() || stores.below(patience) == 0)) ask();
      else if (pick < 14) next();
      else if (pick < 19) tell();
      else if (pick < 22) look();
      else if (pick < 23) make();
      else if (stores.below(6) == 0) clear();
    }
  }

  public static void main(String[] args) {
    int runs = args.length > 0 ? Integer.parseInt(args[0]) : 1000;
    if (args.length > 1) stores = new Stores(Long.parseLong(args[1]));
    for (run = 0; run < runs; run++) dueRun();
    String[] names = {"next that finds none", "next that finds a VALUE", "next of a SPENT one", "exceptions"};
    for (int k = 0; k < seen.length; k++) {
      System.out.print(names[k] + " " + seen[k] + (k + 1 < seen.length ? ", " : "\n"));
      if (seen[k] < 100) due(names[k] + ": seen too seldom", seen[k], 100);
    }
    finish();
  }
}
