import java.util.function.Supplier;
import java.util.function.ToIntFunction;

/** The edges that promises 1 to 18 and 26 name: what is taken and refused, in which order, empty and full. */
public final class CallEdgesTest extends Probe {
  private static final int[] NO_NODES_OF_FIVE = {LEAST, -8, -1, 5, 8, MOST};
  private static final int[] NO_BITS = {LEAST, -1, 2, 3, MOST};

  public static void main(String[] args) {
    sentence("An object is used for at most 512 calls after it has been made", CallEdgesTest::theLastCall);
    sentence("Refused, and nothing changes: UNKNOWN (no such NODE, RING", CallEdgesTest::noSuchNode);
    sentence("the same one twice, where two are asked", CallEdgesTest::theSameOneTwice);
    sentence("Four nodes, views of two.", CallEdgesTest::newObject);
    sentence("A letter (its number, 0 .. 255) more of THE TEXT: how many it has. OUTSIDE; FULL.", CallEdgesTest::write);
    sentence("THE TEXT is empty: how many letters it had.", CallEdgesTest::erase);
    sentence("The place of the FAULT (the letter with which the TOKEN begins, or the length); NONE.", CallEdgesTest::fault);
    sentence("THE TEXT's CLAUSES are done, and it is empty then: how many there were.", CallEdgesTest::netDone);
    sentence("NOT: it has a FAULT.", CallEdgesTest::netRefused);
    sentence("ENTRIES (2), KNOWN (3), those in its VIEW (4, bits). UNKNOWN; OUTSIDE.", CallEdgesTest::node);
    sentence("AGE (1); NONE: there is none.", CallEdgesTest::entryOrNone);
    sentence("UNKNOWN; OUTSIDE: what, k below 0.", CallEdgesTest::entryRefused);
    sentence("A ROUND: who was ASKED; NONE: nobody.", CallEdgesTest::roundOfNobody);
    sentence("NONE: nobody. UNKNOWN; NOT: it is DEAD.", CallEdgesTest::roundRefused);
    sentence("n CYCLES (1 .. 20): ENTRIES of all VIEWS then.", CallEdgesTest::cycles);
    sentence("ENTRIES of all VIEWS then. OUTSIDE.", CallEdgesTest::cycleRefused);
    sentence("A NODE is DEAD (is 1), or ALIVE (0): how many are ALIVE.", CallEdgesTest::die);
    sentence("how many are ALIVE. UNKNOWN; OUTSIDE; NOT: so it is.", CallEdgesTest::dieRefused);
    sentence("There is an ENTRY of j, AGE 0, in the VIEW of i, behind the others: how many it has.", CallEdgesTest::link);
    sentence("UNKNOWN; NOT: it is there; FULL: there is no room.", CallEdgesTest::linkRefused);
    sentence("The latest round(), cycle(), die(), link() is undone, THE DRAWS, too", CallEdgesTest::undoEach);
    sentence("(the last 8 can be): how many can be undone yet", CallEdgesTest::theLastEight);
    sentence("how many can be undone yet. NOT: none.", CallEdgesTest::undoRefused);
    sentence("NODES, VIEWS, THE DRAWS as they are now are kept (k 0, 1): ENTRIES of all VIEWS.", CallEdgesTest::keep);
    sentence("ENTRIES of all VIEWS. UNKNOWN: no such k.", CallEdgesTest::keepRefused);
    sentence("It is as it was kept, nothing can be undone: ENTRIES of all VIEWS.", CallEdgesTest::back);
    sentence("UNKNOWN; NOT: nothing was kept since the last text.", CallEdgesTest::backRefused);
    sentence("FORGOTTEN; NONE. UNKNOWN; NOT: it is ALIVE.", CallEdgesTest::forgottenRefused);
    sentence("NEXT; NONE. UNKNOWN; NOT: it is DEAD.", CallEdgesTest::nextRefused);
    sentence("SPREAD. OUTSIDE; NOT: none is ALIVE.", CallEdgesTest::spreadRefused);
    sentence("FAR; NONE. UNKNOWN; NOT: one of the two is DEAD.", CallEdgesTest::farRefused);
    sentence("0 NODES, 1 c, 2 SLICE, 3 ALIVE ones (bits), 4 ENTRIES of all VIEWS", CallEdgesTest::toldLeastAndMost);
    sentence("5 the greatest KNOWN of an ALIVE one (NONE: none), 6 the least (NONE), 7 PARTS", CallEdgesTest::toldOfNone);
    sentence("9 numbers of all RINGS, 10 how many can be undone, 11 letters of THE TEXT. OUTSIDE.", CallEdgesTest::toldRefused);
    end("the edges of the calls hold");
  }

  private static void dueRefused(String what, ToIntFunction<ShuffledViews> call, int answer) {
    dueUnchanged(what, CallEdgesTest::busy, call, answer);
  }

  private static void theLastCall() {
    ShuffledViews x = made("net 2 1 1 1;cut 0 1");
    // 20 calls are behind it: 19 letters and net.
    for (int k = 20; k < 510; k += 2) {
      due("link, call " + k, x.link(0, 1), 1);
      due("undo, call " + k, x.undo(), 0);
    }
    due("call 511", x.link(0, 1), 1);
    due("call 512", x.told(10), 1);
  }

  private static void noSuchNode() {
    for (int node : NO_NODES_OF_FIVE) {
      int j = node;
      dueRefused("node " + j, x -> x.node(j, 0), UNKNOWN);
      dueRefused("entry of " + j, x -> x.entry(j, 0, 0), UNKNOWN);
      dueRefused("round of " + j, x -> x.round(j), UNKNOWN);
      dueRefused("die " + j, x -> x.die(j, 1), UNKNOWN);
      dueRefused("link from " + j, x -> x.link(j, 0), UNKNOWN);
      dueRefused("link to " + j, x -> x.link(0, j), UNKNOWN);
      dueRefused("forgotten " + j, x -> x.forgotten(j), UNKNOWN);
      dueRefused("next of " + j, x -> x.next(j), UNKNOWN);
      dueRefused("far from " + j, x -> x.far(j, 0), UNKNOWN);
      dueRefused("far to " + j, x -> x.far(0, j), UNKNOWN);
    }
    for (int n = 2; n <= 8; n++) {
      String net = "net " + n + " 1 1 1;dead " + (n - 1) + ";cut 0 1";
      due("node, the last of " + n, made(net).node(n - 1, 0), 0);
      due("node, one more than " + n, made(net).node(n, 0), UNKNOWN);
      due("entry, the last of " + n, made(net).entry(n - 1, 0, 0), 0);
      due("entry, one more than " + n, made(net).entry(n, 0, 0), UNKNOWN);
      due("round, the last of " + n, made(net).round(n - 1), NOT);
      due("round, one more than " + n, made(net).round(n), UNKNOWN);
      due("die, the last of " + n, made(net).die(n - 1, 0), n);
      due("die, one more than " + n, made(net).die(n, 0), UNKNOWN);
      due("link, to the last of " + n, made(net).link(0, n - 1), 1);
      due("link, to one more than " + n, made(net).link(0, n), UNKNOWN);
      due("link, from the last of " + n, made(net).link(n - 1, 0), NOT);
      due("link, from one more than " + n, made(net).link(n, 0), UNKNOWN);
      due("forgotten, one more than " + n, made(net).forgotten(n), UNKNOWN);
      due("next, the last of " + n, made(net).next(n - 1), NOT);
      due("next, one more than " + n, made(net).next(n), UNKNOWN);
      due("far, to the last of " + n, made(net).far(0, n - 1), NOT);
      due("far, to one more than " + n, made(net).far(0, n), UNKNOWN);
      due("far, from one more than " + n, made(net).far(n, 0), UNKNOWN);
    }
    // Nodes of an earlier, greater net are gone.
    ShuffledViews x = made("net 8 5 1 1;net 2 1 1 1");
    due("node 2 of two", x.node(2, 2), UNKNOWN);
    due("entries of two", x.told(4), 2);
  }

  private static void theSameOneTwice() {
    for (int i = 0; i < 5; i++) {
      int same = i;
      dueRefused("link " + i + " to itself", x -> x.link(same, same), UNKNOWN);
      dueRefused("far from " + i + " to itself", x -> x.far(same, same), UNKNOWN);
    }
    // Of two refusals it is the first: no room in the view; a dead one.
    due("link in a full view", new ShuffledViews().link(0, 0), UNKNOWN);
    due("far of a dead one", made("dead 1").far(1, 1), UNKNOWN);
  }

  private static void newObject() {
    ShuffledViews x = new ShuffledViews();
    int[] told = {4, 2, 1, 15, 8, 2, 2, 1, 1, 0, 0, 0};
    for (int what = 0; what < told.length; what++) {
      due("told " + what, x.told(what), told[what]);
    }
    String[] views = {"1:0 2:0", "2:0 3:0", "3:0 0:0", "0:0 1:0"};
    for (int i = 0; i < 4; i++) {
      dueView("at first", x, i, views[i]);
    }
    due("text", x.fault(), 0);
    due("undo", x.undo(), NOT);
    due("back 0", x.back(0), NOT);
    due("back 1", x.back(1), NOT);
    // What another object did is not seen in a new one.
    busy();
    dueSame("beside another", all(new ShuffledViews()), all(x));
  }

  private static ShuffledViews withLetters(int letters) {
    return written(" ".repeat(letters));
  }

  private static void write() {
    for (int letter : new int[] {0, 1, 127, 128, 254, 255}) {
      due("write " + letter, new ShuffledViews().write(letter), 1);
    }
    for (int letter : new int[] {LEAST, -256, -1, 256, 257, 256 + 'a', MOST}) {
      dueRefused("write " + letter, x -> x.write(letter), OUTSIDE);
    }
    ShuffledViews x = new ShuffledViews();
    for (int k = 1; k <= 200; k++) {
      due("write", x.write(k), k);
    }
    due("write the 201st", x.write('a'), FULL);
    Supplier<ShuffledViews> full = () -> written(" ".repeat(190) + "dead 2    ");
    dueUnchanged("write the 201st", full, y -> y.write('a'), FULL);
    dueUnchanged("write 256 as the 201st", full, y -> y.write(256), OUTSIDE);
    dueUnchanged("write -1 as the 201st", full, y -> y.write(-1), OUTSIDE);
    // It is as many letters, whatever they are, that make it full.
    due("write the 200th", withLetters(199).write(255), 200);
  }

  private static void erase() {
    due("none", new ShuffledViews().erase(), 0);
    due("one", withLetters(1).erase(), 1);
    due("199", withLetters(199).erase(), 199);
    ShuffledViews x = withLetters(200);
    due("200", x.erase(), 200);
    due("again", x.erase(), 0);
    due("letters", x.told(11), 0);
    due("write then", x.write('s'), 1);
    type(x, "ly 1");
    due("what was erased is not read", x.fault(), NONE);
    // All but the text stays.
    ShuffledViews y = busy();
    due("erase", y.erase(), 13);
    type(y, "sly 4;cut 0 1");
    dueSame("but the text", all(y), all(busy()));
    dueUnchanged("erase nothing", () -> made("sly 1"), z -> z.erase(), 0);
  }

  private static void fault() {
    dueFault("", 0);
    dueFault("sly 1", NONE);
    dueFault("sly 12", 4);
    dueFault("sly 1 abc", 6);
    dueFault("sly", 3);
    dueFault(" ".repeat(199) + "a", 199);
    dueFault(" ".repeat(200), 200);
    dueRefused("fault", x -> x.fault(), NONE);
    dueUnchanged("fault", () -> written("sly 1;bad"), x -> x.fault(), 6);
  }

  private static void netDone() {
    ShuffledViews x = written("sly 1");
    due("one", x.net(), 1);
    due("letters then", x.told(11), 0);
    due("fault then", x.fault(), 0);
    due("net again", x.net(), NOT);
    x = written("sly 1" + ";sly 1".repeat(23));
    due("24", x.net(), 24);
    due("letters then", x.told(11), 0);
    due("write then", x.write('a'), 1);
  }

  private static void netRefused() {
    dueUnchanged("net of nothing", () -> {
      ShuffledViews x = busy();
      x.erase();
      return x;
    }, x -> x.net(), NOT);
    // What stands ahead of the fault is not done, either.
    dueUnchanged("net of a fault behind", () -> {
      ShuffledViews x = busy();
      type(x, ";net 8 5 5 9;dead 7;dead 8");
      return x;
    }, x -> x.net(), NOT);
  }

  private static void node() {
    for (int what : new int[] {LEAST, -1, 5, 6, MOST}) {
      dueRefused("what " + what, x -> x.node(0, what), OUTSIDE);
      dueRefused("what " + what + " of node 5", x -> x.node(5, what), UNKNOWN);
    }
    ShuffledViews x = made("net 8 5 1 1;cut 0 1;cut 0 2;cut 0 3;cut 0 4;cut 0 5;dead 0;sly 7");
    int[][] nodes = {{0, 0, 0, 5, 0}, {1, 0, 5, 4, 124}, {1, 1, 5, 5, 31}};
    for (int what = 0; what <= 4; what++) {
      due("what " + what + " of a dead one with none", x.node(0, what), nodes[0][what]);
      due("what " + what + " of a full one", x.node(1, what), nodes[1][what]);
      due("what " + what + " of a sly one", x.node(7, what), nodes[2][what]);
    }
    due("the highest bit", made("net 8 1 1 1").node(6, 4), 128);
    due("known by all others", made("net 6 5 1 1").node(0, 3), 5);
    due("known by none", made("net 2 1 1 1;cut 1 0").node(0, 3), 0);
  }

  private static void entryOrNone() {
    for (int c = 1; c <= 5; c++) {
      ShuffledViews x = made("net 8 " + c + " 1 1;link 0 " + c + " 99");
      due("the first", x.entry(0, 0, 0), 1);
      due("the last", x.entry(0, c - 1, 0), c);
      due("its age", x.entry(0, c - 1, 1), 99);
      due("behind the last", x.entry(0, c, 0), NONE);
      due("its age", x.entry(0, c, 1), NONE);
      due("far behind", x.entry(0, MOST, 0), NONE);
    }
    ShuffledViews x = made("net 8 5 1 1;cut 0 5");
    due("the last of fewer than c", x.entry(0, 3, 0), 4);
    due("behind it", x.entry(0, 4, 0), NONE);
    due("of none", made("net 2 1 1 1;cut 0 1").entry(0, 0, 0), NONE);
    due("of a dead one", made("dead 0").entry(0, 1, 0), 2);
    dueRefused("entry 7", y -> y.entry(0, 7, 1), NONE);
  }

  private static void entryRefused() {
    for (int what : NO_BITS) {
      dueRefused("what " + what, x -> x.entry(0, 0, what), OUTSIDE);
      dueRefused("what " + what + " where there is none", x -> x.entry(0, 5, what), OUTSIDE);
      dueRefused("what " + what + " of node -1", x -> x.entry(-1, 0, what), UNKNOWN);
    }
    for (int k : new int[] {LEAST, -2, -1}) {
      dueRefused("k " + k, x -> x.entry(0, k, 0), OUTSIDE);
      dueRefused("k " + k + ", the age", x -> x.entry(0, k, 1), OUTSIDE);
      dueRefused("k " + k + " of node 5", x -> x.entry(5, k, 0), UNKNOWN);
    }
  }

  private static void roundOfNobody() {
    ShuffledViews x = made("net 2 1 1 1;cut 0 1");
    due("no entries", x.round(0), NONE);
    due("it is done", x.told(10), 1);
    due("undone", x.undo(), 0);
    due("a dead one asked", made("net 2 1 1 1;dead 1").round(0), 1);
    due("node 0 asked", made("net 2 1 1 1").round(1), 0);
    due("node 7 asked", made("net 8 1 1 1").round(6), 7);
  }

  private static void roundRefused() {
    dueRefused("round of a dead one", x -> x.round(3), NOT);
    due("a dead one without entries", made("net 2 1 1 1;cut 0 1;dead 0").round(0), NOT);
  }

  private static void cycles() {
    for (int n : new int[] {1, 2, 19, 20}) {
      ShuffledViews x = made("net 6 3 2 5;dead 2");
      ShuffledViews y = made("net 6 3 2 5;dead 2");
      int entries = x.cycle(n);
      for (int k = 0; k < n; k++) {
        due("one cycle", y.cycle(1), y.told(4));
      }
      due(n + " cycles", entries, y.told(4));
      dueSame(n + " cycles", net(x), net(y));
      due(n + " cycles are one call", x.told(10), 1);
    }
    due("no entries", made("net 2 1 1 1;cut 0 1;cut 1 0").cycle(1), 0);
    // Views of dead ones count, too.
    due("entries of dead ones", made("net 8 5 1 1;dead 0;dead 1;dead 2;dead 3;dead 4;dead 5;dead 6;dead 7").cycle(20), 40);
  }

  private static void cycleRefused() {
    for (int n : new int[] {LEAST, -1, 0, 21, 22, MOST}) {
      dueRefused("cycle " + n, x -> x.cycle(n), OUTSIDE);
    }
  }

  private static void die() {
    ShuffledViews x = made("net 8 1 1 1");
    for (int i = 0; i < 8; i++) {
      due("die " + i, x.die(i, 1), 7 - i);
    }
    due("alive", x.told(3), 0);
    for (int i = 7; i >= 0; i--) {
      due("live " + i, x.die(i, 0), 8 - i);
    }
    due("alive", x.told(3), 255);
    // Its view stays, and it is sly yet.
    x = made("sly 1");
    x.die(1, 1);
    dueView("of a dead one", x, 1, "2:0 3:0");
    due("a dead and sly one", x.node(1, 1), 1);
  }

  private static void dieRefused() {
    for (int is : NO_BITS) {
      dueRefused("is " + is, x -> x.die(0, is), OUTSIDE);
      dueRefused("is " + is + " of a dead one", x -> x.die(3, is), OUTSIDE);
      dueRefused("is " + is + " of node 5", x -> x.die(5, is), UNKNOWN);
    }
    dueRefused("a dead one dies", x -> x.die(3, 1), NOT);
    dueRefused("an alive one lives", x -> x.die(0, 0), NOT);
  }

  private static void link() {
    ShuffledViews x = made("net 8 5 1 1;cut 0 1;cut 0 2;cut 0 3;cut 0 4;cut 0 5");
    for (int k = 1; k <= 5; k++) {
      due("link", x.link(0, 8 - k), k);
    }
    dueView("behind the others", x, 0, "7:0 6:0 5:0 4:0 3:0");
    due("a sixth", x.link(0, 2), FULL);
    due("of a dead one", made("net 2 1 1 1;cut 0 1;dead 0").link(0, 1), 1);
    due("to a dead one", made("net 2 1 1 1;cut 0 1;dead 1").link(0, 1), 1);
    dueView("older ones stay as they are", x = made("net 4 3 1 1;link 0 1 9;cut 0 2"), 0, "1:9 3:0");
    due("link", x.link(0, 2), 3);
    dueView("older ones stay as they are", x, 0, "1:9 3:0 2:0");
  }

  private static void linkRefused() {
    Supplier<ShuffledViews> one = () -> made("net 4 2 1 9;cut 0 1;link 0 2 7");
    dueUnchanged("it is there", one, x -> x.link(0, 2), NOT);
    Supplier<ShuffledViews> full = () -> made("net 5 3 1 9;link 0 1 7");
    dueUnchanged("no room", full, x -> x.link(0, 4), FULL);
    // There and full: NOT is the first that fits.
    dueUnchanged("the first is there", full, x -> x.link(0, 1), NOT);
    dueUnchanged("the last is there", full, x -> x.link(0, 3), NOT);
    dueUnchanged("itself in a full view", full, x -> x.link(0, 0), UNKNOWN);
    dueUnchanged("node 5 in a full view", full, x -> x.link(0, 5), UNKNOWN);
    for (int c = 1; c <= 5; c++) {
      ShuffledViews x = made("net 8 " + c + " 1 1;cut 0 1");
      due("room in " + c, x.link(0, 7), c);
      due("no room in " + c, x.link(0, 1), FULL);
    }
  }

  private static void undoEach() {
    String text = "net 5 3 2 9;cut 0 3;sly 1";
    dueUndone("round", text, x -> x.round(0), 1);
    dueUndone("round of nobody", text + ";cut 0 1;cut 0 2", x -> x.round(0), NONE);
    dueUndone("round to a dead one", text + ";dead 1", x -> x.round(0), 1);
    dueUndone("cycle", text, x -> x.cycle(20) > 0 ? 1 : 0, 1);
    dueUndone("die", text, x -> x.die(2, 1), 4);
    dueUndone("live", text + ";dead 2", x -> x.die(2, 0), 5);
    dueUndone("link", text, x -> x.link(0, 4), 3);
  }

  private static void dueUndone(String what, String text, ToIntFunction<ShuffledViews> call, int answer) {
    ShuffledViews x = made(text);
    due(what, call.applyAsInt(x), answer);
    due("undo of " + what, x.undo(), 0);
    dueSame("undo of " + what, all(x), all(made(text)));
  }

  private static void theLastEight() {
    String text = "net 6 3 2 9;dead 5";
    for (int done : new int[] {1, 7, 8, 9, 16, 17, 30}) {
      ShuffledViews x = made(text);
      String[] nets = new String[done + 1];
      nets[0] = net(x);
      // A new object for each look, so that none has more than 512 calls.
      for (int k = 1; k <= done; k++) {
        nets[k] = net(behind(text, k));
        act(x, k);
        due("can be undone", x.told(10), Math.min(k, 8));
      }
      int most = Math.min(done, 8);
      for (int k = 1; k <= most; k++) {
        due("undo " + k + " of " + done, x.undo(), most - k);
        if (k == 1 || k == most) {
          dueSame("undo " + k + " of " + done, net(x), nets[done - k]);
        }
      }
      due("undo of none, behind " + done, x.undo(), NOT);
    }
    // Undone, and done again: the row of eight goes round.
    ShuffledViews x = behind(text, 12);
    due("undo", x.undo(), 7);
    due("undo", x.undo(), 6);
    act(x, 11);
    act(x, 12);
    act(x, 13);
    due("can be undone", x.told(10), 8);
    dueSame("done again", net(x), net(behind(text, 13)));
    for (int k = 7; k >= 0; k--) {
      due("undo", x.undo(), k);
    }
    dueSame("eight undone", net(x), net(behind(text, 5)));
    // Neither a refused call nor one that only tells takes a place among the eight.
    x = behind(text, 8);
    x.cycle(0);
    x.round(5);
    x.die(5, 1);
    x.link(0, 0);
    x.spread(9);
    x.keep(0);
    x.ring(0);
    x.add(0, 1);
    for (int k = 7; k >= 0; k--) {
      due("undo", x.undo(), k);
    }
    dueSame("all eight undone", net(x), net(made(text)));
    due("rings stay", x.told(9), 1);
  }

  private static ShuffledViews behind(String text, int acts) {
    ShuffledViews x = made(text);
    for (int k = 1; k <= acts; k++) {
      act(x, k);
    }
    return x;
  }

  /** The k-th thing done, which is never refused: each sort in turn. */
  private static void act(ShuffledViews x, int k) {
    if (k % 3 == 0) {
      due("cycle", x.cycle(1), x.told(4));
    } else if (k % 3 == 1) {
      due("die", x.die(4, x.node(4, 0)), 4 + x.node(4, 0));
    } else {
      due("round", x.round(k % 4) >= NONE ? 1 : 0, 1);
    }
  }

  private static void undoRefused() {
    due("at first", new ShuffledViews().undo(), NOT);
    dueUnchanged("behind a text", () -> made("sly 1"), x -> x.undo(), NOT);
    dueUnchanged("behind back", () -> {
      ShuffledViews x = busy();
      x.back(0);
      return x;
    }, x -> x.undo(), NOT);
    dueUnchanged("behind undo", () -> {
      ShuffledViews x = behind("net 6 3 2 9;dead 5", 1);
      x.undo();
      return x;
    }, x -> x.undo(), NOT);
  }

  private static void keep() {
    ShuffledViews x = made("net 8 5 1 1");
    due("the most entries", x.keep(0), 40);
    due("no entries", made("net 2 1 1 1;cut 0 1;cut 1 0").keep(1), 0);
    // Kept by 0 and by 1, each by itself; kept again, the later one counts.
    x = behind("net 5 1 1 9", 1);
    due("keep 0", x.keep(0), x.told(4));
    String first = net(x);
    act(x, 2);
    due("keep 1", x.keep(1), x.told(4));
    String second = net(x);
    act(x, 3);
    x.back(0);
    dueSame("back 0", net(x), first);
    x.back(1);
    dueSame("back 1", net(x), second);
    act(x, 4);
    String third = net(x);
    due("unlike nets", first.equals(second) || second.equals(third) || third.equals(first) ? 1 : 0, 0);
    x.keep(0);
    x.back(1);
    dueSame("back 1, kept yet", net(x), second);
    x.back(0);
    dueSame("back 0, kept anew", net(x), third);
    // What can be undone, rings and text stay.
    ShuffledViews y = busy();
    due("keep", y.keep(0), y.told(4));
    dueSame("but what is kept", all(y), all(busy()));
  }

  private static void keepRefused() {
    for (int k : NO_BITS) {
      dueRefused("keep " + k, x -> x.keep(k), UNKNOWN);
    }
  }

  private static void back() {
    ShuffledViews x = busy();
    ShuffledViews y = busy();
    int entries = y.keep(0);
    due("can be undone", y.told(10), 8);
    due("back", y.back(0), entries);
    due("can be undone", y.told(10), 0);
    dueSame("as it was kept", net(y), net(x));
    // What comes behind leaves what was kept as it was.
    y.cycle(3);
    y.die(0, 1);
    due("can be undone", y.told(10), 2);
    due("back again", y.back(0), entries);
    dueSame("as it was kept", net(y), net(x));
    due("rings stay", y.told(9), 8);
    due("letters stay", y.told(11), 13);
  }

  private static void backRefused() {
    for (int k : NO_BITS) {
      dueRefused("back " + k, x -> x.back(k), UNKNOWN);
      due("back " + k + " where nothing was kept", new ShuffledViews().back(k), UNKNOWN);
    }
    for (int k = 0; k < 2; k++) {
      int kept = k;
      dueUnchanged("back where the other was kept", () -> {
        ShuffledViews x = behind("net 6 3 2 9;dead 5", 9);
        x.keep(1 - kept);
        x.cycle(1);
        return x;
      }, x -> x.back(kept), NOT);
      dueUnchanged("back behind a text", () -> {
        ShuffledViews x = new ShuffledViews();
        x.keep(kept);
        type(x, "sly 1");
        x.net();
        x.cycle(1);
        return x;
      }, x -> x.back(kept), NOT);
      ShuffledViews x = new ShuffledViews();
      x.keep(kept);
      type(x, "sly 9");
      due("a text with a fault", x.net(), NOT);
      due("back behind it", x.back(kept), 8);
    }
  }

  private static void forgottenRefused() {
    dueRefused("forgotten, alive", x -> x.forgotten(0), NOT);
    due("alive and known by none", made("net 2 1 1 1;cut 1 0").forgotten(0), NOT);
    dueUnchanged("none", () -> made("net 3 1 1 1;dead 2"), x -> x.forgotten(2), NONE);
    due("the last one", made("net 8 1 1 1;dead 7").forgotten(7) >= NONE ? 1 : 0, 1);
  }

  private static void nextRefused() {
    dueRefused("next of a dead one", x -> x.next(3), NOT);
    due("dead and without entries", made("net 2 1 1 1;cut 0 1;dead 0").next(0), NOT);
    dueUnchanged("none", () -> made("net 2 1 1 1;cut 0 1"), x -> x.next(0), NONE);
  }

  private static void spreadRefused() {
    for (int n : new int[] {LEAST, -1, 61, 62, MOST}) {
      dueRefused("spread " + n, x -> x.spread(n), OUTSIDE);
      due("spread " + n + ", none alive", made("net 2 1 1 1;dead 0;dead 1").spread(n), OUTSIDE);
    }
    for (int n : new int[] {0, 1, 60}) {
      dueUnchanged("spread " + n + ", none alive", () -> made("net 2 1 1 1;dead 0;dead 1"), x -> x.spread(n), NOT);
      due("spread " + n, made("net 2 1 1 1").spread(n) >= 0 ? 1 : 0, 1);
    }
  }

  private static void farRefused() {
    dueRefused("far from a dead one", x -> x.far(3, 0), NOT);
    dueRefused("far to a dead one", x -> x.far(0, 3), NOT);
    due("both are dead", made("dead 0;dead 1").far(0, 1), NOT);
    due("a dead one, and none", made("dead 0").far(0, 4), UNKNOWN);
    due("none, and a dead one", made("dead 0").far(-1, 0), UNKNOWN);
    dueUnchanged("none", () -> made("net 2 1 1 1;cut 0 1"), x -> x.far(0, 1), NONE);
  }

  private static void toldLeastAndMost() {
    int[] least = {2, 1, 1, 3, 2};
    int[] most = {8, 5, 5, 255, 40};
    for (int what = 0; what < 5; what++) {
      due("the least of " + what, made("net 2 1 1 1").told(what), least[what]);
      due("the most of " + what, made("net 8 5 5 999").told(what), most[what]);
    }
    due("none alive", made("net 2 1 1 1;dead 0;dead 1").told(3), 0);
    due("the last alone alive", made("net 8 1 1 1;dead 0;dead 1;dead 2;dead 3;dead 4;dead 5;dead 6").told(3), 128);
    due("no entries", made("net 2 1 1 1;cut 0 1;cut 1 0").told(4), 0);
    due("entries of dead ones", made("net 2 1 1 1;dead 0;dead 1").told(4), 2);
  }

  private static void toldOfNone() {
    ShuffledViews none = made("net 2 1 1 1;dead 0;dead 1");
    due("the greatest", none.told(5), NONE);
    due("the least", none.told(6), NONE);
    due("parts", none.told(7), 0);
    ShuffledViews one = made("net 2 1 1 1;dead 0");
    due("the greatest of one", one.told(5), 0);
    due("the least of one", one.told(6), 0);
    due("parts of one", one.told(7), 1);
    // 0 is dead: that all others know it does not count, nor does its view.
    ShuffledViews x = made("net 3 2 1 1;dead 0;cut 1 2");
    due("the greatest", x.told(5), 1);
    due("the least", x.told(6), 0);
    ShuffledViews star = made("net 8 1 1 1;link 1 0 0;link 2 0 0;link 3 0 0;link 4 0 0;link 5 0 0;link 6 0 0");
    due("the greatest of all", star.told(5), 7);
    due("the least of all", star.told(6), 0);
    due("the greatest is the first's", made("net 3 1 1 1;link 1 0 0").told(5), 2);
    due("the least is the first's", made("net 3 1 1 1;link 2 1 0").told(6), 0);
    due("the greatest is the last's", made("net 3 1 1 1;link 0 2 0").told(5), 2);
    due("the least is the last's", made("net 3 1 1 1;link 1 0 0").told(6), 0);
  }

  private static void toldRefused() {
    for (int what : new int[] {LEAST, -1, 12, 13, MOST}) {
      dueRefused("told " + what, x -> x.told(what), OUTSIDE);
    }
    ShuffledViews x = busy();
    for (int r = 0; r < 3; r++) {
      fill(x, r, 8);
    }
    due("24 numbers", x.told(9), 24);
    due("eight can be undone", x.told(10), 8);
    due("13 letters", x.told(11), 13);
    due("200 letters", withLetters(200).told(11), 200);
    dueRefused("told 11", y -> y.told(11), 13);
  }
}
