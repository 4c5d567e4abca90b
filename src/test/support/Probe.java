import java.io.IOException;
import java.nio.file.Files;
import java.nio.file.Path;
import java.util.ArrayList;
import java.util.List;
import java.util.function.Supplier;
import java.util.function.ToIntFunction;

/** What the tests share: answers held against those that are due, nets made by a text, and a look at all an object holds. */
abstract class Probe {
  protected static final int NONE = -1, UNKNOWN = -2, OUTSIDE = -3, NOT = -4, FULL = -5, NULL = -11, EMPTY = -12, ROOM = -13;
  protected static final int LEAST = Integer.MIN_VALUE, MOST = Integer.MAX_VALUE;
  private static final Path DOCUMENT = Path.of("../shared/DOC.md");
  private static final int MOST_UNDONE = 8;

  private static int wrong = 0;
  private static String sentence = "";
  private static String document = "";

  /** One test of one sentence, told in the document's own words. */
  protected static void sentence(String words, Runnable test) {
    sentence = "'" + words + "': ";
    if (!document().contains(words)) {
      fault("the document does not say so");
    }
    test.run();
    sentence = "";
  }

  private static String document() {
    if (document.isEmpty()) {
      try {
        document = Files.readString(DOCUMENT).replaceAll("\\s+", " ");
      } catch (IOException e) {
        throw new IllegalStateException("no document at " + DOCUMENT, e);
      }
    }
    return document;
  }

  protected static void end(String allIsWell) {
    System.out.println(wrong == 0 ? allIsWell : wrong + " answers are not as due");
    if (wrong != 0) {
      System.exit(1);
    }
  }

  protected static void fault(String what) {
    wrong++;
    System.out.println(sentence + what);
  }

  protected static void due(String what, int got, int want) {
    if (got != want) {
      fault(what + " answered " + got + ", due is " + want);
    }
  }

  protected static void dueSame(String what, String got, String want) {
    if (!got.equals(want)) {
      fault(what + ": there is " + got + ", due is " + want);
    }
  }

  protected static void dueFault(String text, int place) {
    due("fault of '" + text + "'", written(text).fault(), place);
  }

  /** A view told as in '2:1 3:0', node and age. */
  protected static void dueView(String what, ShuffledViews x, int node, String view) {
    dueSame(what + ", the view of " + node, view(x, node), view);
  }

  protected static ShuffledViews written(String text) {
    ShuffledViews x = new ShuffledViews();
    type(x, text);
    return x;
  }

  protected static void type(ShuffledViews x, String text) {
    for (int k = 0; k < text.length(); k++) {
      x.write(text.charAt(k));
    }
  }

  protected static ShuffledViews made(String text) {
    ShuffledViews x = written(text);
    if (x.net() < 1) {
      fault("a text that stands was refused: " + text);
    }
    return x;
  }

  /** A ring of 1 .. size, the hand at 1. */
  protected static void fill(ShuffledViews x, int ring, int size) {
    x.ring(ring);
    for (int k = 0; k < size; k++) {
      x.add(ring, k == 0 ? 1 : size + 1 - k);
    }
  }

  /** The draws that a seed comes to, by the document's own words. */
  protected static int drawn(int seed, int times) {
    long draws = seed;
    for (int k = 0; k < times; k++) {
      draws = (draws * 75 + 74) % 65537;
    }
    return (int) draws;
  }

  protected static String view(ShuffledViews x, int node) {
    StringBuilder view = new StringBuilder();
    for (int k = 0; k < x.node(node, 2); k++) {
      view.append(k == 0 ? "" : " ").append(x.entry(node, k, 0)).append(':').append(x.entry(node, k, 1));
    }
    return view.toString();
  }

  /** Nodes, views, the draws. */
  protected static String net(ShuffledViews x) {
    StringBuilder net = new StringBuilder();
    for (int what : new int[] {0, 1, 2, 3, 4, 5, 6, 7, 8}) {
      net.append(x.told(what)).append(' ');
    }
    for (int i = 0; i < x.told(0); i++) {
      net.append('|').append(x.node(i, 0)).append(x.node(i, 1)).append(x.node(i, 3)).append(' ').append(view(x, i));
    }
    return net.toString();
  }

  /** The numbers of the rings in their order, each from its hand on; the hands go on by it. */
  private static String rings(ShuffledViews x) {
    StringBuilder rings = new StringBuilder();
    for (int r = 0; r < 3; r++) {
      rings.append('/').append(x.sum(r)).append(':').append(x.step(r, 0));
      for (int k = 0; k < 8; k++) {
        rings.append(' ').append(x.step(r, 1));
      }
    }
    return rings.toString();
  }

  protected static String all(ShuffledViews x) {
    return net(x) + " numbers " + x.told(9) + " undo " + x.told(10) + " letters " + x.told(11) + " fault " + x.fault() + rings(x);
  }

  /** The call answers so, and nothing changes by it. */
  protected static void dueUnchanged(String what, Supplier<ShuffledViews> maker, ToIntFunction<ShuffledViews> call, int answer) {
    List<String> without = looks(maker);
    List<String> with = looks(() -> {
      ShuffledViews x = maker.get();
      due(what, call.applyAsInt(x), answer);
      return x;
    });
    for (int k = 0; k < with.size(); k++) {
      dueSame("behind " + what, with.get(k), without.get(k));
    }
  }

  /**
   * All that can be seen of an object, and of what it holds to undo, to bring back and to read. Each look has a new
   * object, since a look changes it and since an object is good for 512 calls.
   */
  private static List<String> looks(Supplier<ShuffledViews> maker) {
    List<String> looks = new ArrayList<>();
    looks.add(all(maker.get()));
    for (int times = 1; times <= MOST_UNDONE + 1; times++) {
      ShuffledViews x = maker.get();
      int answer = 0;
      for (int k = 0; k < times; k++) {
        answer = x.undo();
      }
      looks.add("undo " + answer + ": " + net(x));
    }
    for (int k = 0; k < 2; k++) {
      ShuffledViews x = maker.get();
      looks.add("back " + x.back(k) + ": " + all(x));
    }
    ShuffledViews x = maker.get();
    looks.add("net " + x.net() + ": " + all(x));
    return looks;
  }

  /** Nothing of it is as at first, so that a change of any part of it shows. */
  protected static ShuffledViews busy() {
    ShuffledViews x = made("net 5 3 2 55;dead 3;sly 1;cut 2 0;link 4 2 7");
    x.link(2, 1);
    x.keep(0);
    for (int k = 0; k < 4; k++) {
      x.round(k % 3);
      x.cycle(1);
      x.die(k % 2 == 0 ? 2 : 3, k == 0 || k == 3 ? 1 : 0);
    }
    x.keep(1);
    x.round(0);
    fill(x, 0, 8);
    x.step(0, 3);
    x.ring(1);
    type(x, "sly 4;cut 0 1");
    return x;
  }
}
