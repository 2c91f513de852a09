import java.util.List;

/** Many stores, made by a fixed rule, each searched in the class and in a plain model. */
public final class ModelTest extends Due {
  private static Stores stores = new Stores(1);

  /** How often each end was met, by the model's numbers of them. */
  private static final int[] seen = new int[7];
  private static final int SPENT = 1;
  private static final int ANEW = 6;

  /** No more is promised of an object. */
  private static final int MOST_CALLS = 512;

  private static Model grown(int size) {
    Model model = new Model();
    while (stores.size() < size) {
      long number = stores.number();
      model.add(stores.node(), number);
    }
    return model;
  }

  private static SharedChoices made(Model model) {
    SharedChoices x = new SharedChoices();
    for (int n = 0; n < model.nodes.size(); n++) due("made", Stores.make(x, model.nodes.get(n), model.numbers.get(n)), n);
    return x;
  }

  private static void dueNodes(String what, Model model) {
    SharedChoices x = made(model);
    for (int n = 0; n < model.nodes.size(); n++) {
      for (int k = 0; k < 4; k++) due(what + " node(" + n + ", " + k + ")", x.node(n, k), model.nodes.get(n)[k]);
    }
    due(what + " count(0)", x.count(0), model.nodes.size());
  }

  /** How many calls dueLatest makes. */
  private static int callsOf(Model.Place latest) {
    return latest == null ? 5 : 5 + latest.alternatives.size() + 2 * latest.tokens.size();
  }

  private static void dueLatest(String what, SharedChoices x, Model.Place latest) {
    int decisions = latest == null ? 0 : latest.alternatives.size();
    int tokens = latest == null ? 0 : latest.tokens.size();
    int told = x.count(8);
    due(what + " count(6)", x.count(6), latest == null ? 0 : latest.labour);
    due(what + " count(7)", x.count(7), decisions);
    due(what + " count(8)", told, tokens);
    for (int k = 0; k <= decisions; k++) {
      due(what + " decision " + k, x.decision(k), k < decisions ? latest.alternatives.get(k) : -1);
    }
    for (int k = 0; k < Math.min(tokens, told); k++) {
      for (int w = 0; w < 2; w++) due(what + " token " + k, x.token(k, w), latest.tokens.get(k)[w]);
    }
    dueThrow(what + " token behind the last", ELEMENT, () -> x.token(tokens, 0));
  }

  /** A new object that has been searched up to where the one before it was. */
  private static SharedChoices asked(Model model, int n, int mode, int bound, int calls) {
    SharedChoices x = made(model);
    x.ask(n, mode, bound);
    for (int k = 0; k < calls; k++) due("next of a new object", x.next(), 1);
    return x;
  }

  private static void dueSearch(String what, Model model, int n, int mode, int bound) {
    SharedChoices x = asked(model, n, mode, bound, 0);
    int left = MOST_CALLS - model.nodes.size() - 1;
    List<Model.Place> places = model.places(n, mode, bound);
    int[] counts = new int[6];
    Model.Place latest = null;
    int at = 0;
    int end = 1;
    for (int call = 0; call < 210 && end == 1; call++) {
      end = at < places.size() ? 2 : 0;
      while (at < places.size() && at < 200) {
        Model.Place place = places.get(at++);
        counts[1]++;
        if (place.end > 1) { counts[place.end]++; seen[place.end]++; }
        if (place.end == Model.VALUE) { latest = place; end = 1; break; }
        end = at < places.size() ? 2 : 0;
      }
      int calls = 1 + 5 + callsOf(latest) + 2;
      if (calls > left) {
        x = asked(model, n, mode, bound, call);
        left = MOST_CALLS - model.nodes.size() - 1 - call;
      }
      left -= calls;
      String told = what + " call " + call;
      due(told + " next", x.next(), end);
      for (int k = 1; k < 6; k++) due(told + " count(" + k + ")", x.count(k), counts[k]);
      dueLatest(told, x, latest);
    }
    if (end == 2) seen[SPENT]++;
    due(what + " next again", x.next(), end);
    due(what + " PLACES again", x.count(1), counts[1]);
  }

  private static void dueStore(int run) {
    stores.begin();
    Model model = grown(Math.min(60, 3 + stores.below(run % 3 == 0 ? 10 : 58)));
    for (int search = 0; search < 6; search++) {
      int n = model.nodes.size() - 1 - stores.below(Math.min(model.nodes.size(), 8));
      int mode = stores.below(3);
      int bound = 1 + stores.below(mode == 2 || stores.below(4) > 0 ? 6 : 60);
      dueSearch("store " + run + " node " + n + " mode " + mode + " bound " + bound, model, n, mode, bound);
    }
    dueNodes("store " + run, model);
    seen[ANEW] += model.anew;
  }

  public static void main(String[] args) {
    int runs = args.length > 0 ? Integer.parseInt(args[0]) : 12000;
    if (args.length > 1) stores = new Stores(Long.parseLong(args[1]));
    for (int run = 0; run < runs; run++) dueStore(run);
    String[] names = {"", "SPENT", "VALUES", "FAILED", "GIVEN UP", "CUT", "begun anew"};
    for (int k = 1; k < seen.length; k++) {
      System.out.print(names[k] + " " + seen[k] + (k + 1 < seen.length ? ", " : "\n"));
      if (seen[k] < 100) due(names[k] + " is seen too seldom", seen[k], 100);
    }
    finish();
  }
}
