/**
 * Each promise by itself: ordinary calls and wrong ones. The answers are worked out by hand, but where one call is
 * held against another (cycle against round, what is foretold against cycle). The edges have tests of their own.
 */
public final class PromisesTest extends Probe {
  public static void main(String[] args) {
    newObject();
    write();
    erase();
    faultsOfWords();
    faultsOfNumbers();
    faultsOfManyClauses();
    textThatStands();
    net();
    netClearsTheRest();
    linksOfTheText();
    node();
    entry();
    round();
    roundTakesInPlaceOfWhatWasSent();
    roundOfSlyOnes();
    roundOfTheDeadAndTheLonely();
    agesEndAtNinetyNine();
    cycle();
    die();
    link();
    undo();
    keepAndBack();
    forgotten();
    next();
    spread();
    far();
    ring();
    add();
    step();
    take();
    count();
    sum();
    drop();
    told();
    end("all promises hold");
  }

  private static void newObject() {
    ShuffledViews x = new ShuffledViews();
    int[] told = {4, 2, 1, 15, 8, 2, 2, 1, 1, 0, 0, 0};
    for (int what = 0; what < told.length; what++) {
      due("new told(" + what + ")", x.told(what), told[what]);
    }
    dueView("new", x, 0, "1:0 2:0");
    dueView("new", x, 1, "2:0 3:0");
    dueView("new", x, 2, "3:0 0:0");
    dueView("new", x, 3, "0:0 1:0");
    for (int i = 0; i < 4; i++) {
      due("new alive", x.node(i, 0), 1);
      due("new sly", x.node(i, 1), 0);
    }
    for (int r = 0; r < 3; r++) {
      due("new ring", x.sum(r), NULL);
    }
    due("new back", x.back(0), NOT);
    due("new undo", x.undo(), NOT);
  }

  private static void write() {
    ShuffledViews x = new ShuffledViews();
    due("write 0", x.write(0), 1);
    due("write 255", x.write(255), 2);
    due("write -1", x.write(-1), OUTSIDE);
    due("write 256", x.write(256), OUTSIDE);
    due("write least", x.write(LEAST), OUTSIDE);
    due("write most", x.write(MOST), OUTSIDE);
    for (int k = 3; k <= 200; k++) {
      due("write", x.write(' '), k);
    }
    due("write 201", x.write(' '), FULL);
    due("write 201, outside first", x.write(256), OUTSIDE);
    due("letters", x.told(11), 200);
  }

  private static void erase() {
    ShuffledViews x = new ShuffledViews();
    due("erase nothing", x.erase(), 0);
    type(x, "sly 1");
    due("erase", x.erase(), 5);
    due("erase again", x.erase(), 0);
    due("letters", x.told(11), 0);
    type(x, "cut 0 1");
    due("fault behind erase", x.fault(), NONE);
    for (int k = 7; k < 200; k++) {
      x.write(' ');
    }
    due("erase a full one", x.erase(), 200);
    due("write behind erase", x.write('a'), 1);
  }

  private static void faultsOfWords() {
    dueFault("", 0);
    dueFault("   ", 3);
    dueFault("nod 1", 0);
    dueFault("ne", 0);
    dueFault("nets 4 2 1 1", 0);
    dueFault("Net 4 2 1 1", 0);
    dueFault("  slyy 1", 2);
    dueFault("1 sly", 0);
    dueFault(";sly 1", 0);
    dueFault("sly", 3);
    dueFault("sly  ", 5);
    dueFault("sly;", 3);
    dueFault("sly x", 4);
    dueFault("sly 1x", 5);
    dueFault("sly 1 sly 2", 6);
    dueFault("sly 1 2", 6);
    dueFault("sly 1;", 6);
    dueFault("sly 1; ", 7);
    dueFault("sly 1;;sly 2", 6);
    dueFault("sly 1.", 5);
    dueFault("sly -1", 4);
    dueFault("sly\t1", 3);
    // The signs next to a .. z and 0 .. 9 are no part of a row.
    dueFault("slyz 1", 0);
    dueFault("slya 1", 0);
    dueFault("sly{ 1", 3);
    dueFault("sly` 1", 3);
    dueFault("sly 1/", 5);
    dueFault("sly 1:", 5);
    dueFault("net 4 2 1 9 0", 12);
    dueFault("sly 1" + (char) 255, 5);
    dueFault("sly 1" + (char) 0, 5);
    dueFault("net 4 2 1 1;dead", 16);
    dueFault("cut 1", 5);
    dueFault("cut 1 2 3", 8);
    dueFault("link 0 1 1 1", 11);
    dueFault("dead 1 1", 7);
    dueFault("sly 1;bad 1;sly 9", 6);
  }

  private static void faultsOfNumbers() {
    dueFault("net 1 1 1 1", 4);
    dueFault("net 9 1 1 1", 4);
    dueFault("net 3 0 1 1", 6);
    dueFault("net 3 6 1 1", 6);
    dueFault("net 3 2 0 1", 8);
    dueFault("net 3 2 3 1", 8);
    dueFault("net 3 2 2 0", 10);
    dueFault("net 3 2 2 1000", 10);
    dueFault("net 3 2 2", 9);
    dueFault("net 0003 2 2 1", 4);
    dueFault("dead 4", 5);
    dueFault("dead 0001", 5);
    dueFault("sly 99999999999999999999", 4);
    dueFault("sly 4294967296", 4);
    dueFault("link 4 0 0", 5);
    dueFault("link 0 4 0", 7);
    dueFault("link 0 0 0", 7);
    dueFault("link 0 00 0", 7);
    dueFault("link 0 1 100", 9);
    dueFault("link 0 1", 8);
    dueFault("cut 3 3", 6);
    dueFault("cut 4 1", 4);
    // How many nodes there are then is told by the last net ahead.
    dueFault("net 8 1 1 1;dead 7", NONE);
    dueFault("dead 7;net 8 1 1 1", 5);
    dueFault("net 8 1 1 1;net 2 1 1 1;dead 2", 29);
    ShuffledViews x = made("net 8 5 5 1");
    type(x, "dead 7;net 3 1 1 1;dead 3");
    due("fault in a net of eight", x.fault(), 24);
    due("the net of a fault", x.net(), NOT);
    due("nothing was done", x.told(3), 255);
  }

  private static void faultsOfManyClauses() {
    String many = "sly 1;".repeat(24);
    dueFault(many.substring(0, 143), NONE);
    dueFault(many, 143);
    dueFault(many + "sly 1", 143);
    dueFault(many.substring(0, 143) + " sly 1", 144);
    due("net of 24", written(many.substring(0, 143)).net(), 24);
    due("net of 25", written(many + "sly 1").net(), NOT);
  }

  private static void textThatStands() {
    dueFault("net 2 1 1 1", NONE);
    dueFault("net 8 5 5 999", NONE);
    dueFault("  net   08 005 5 001  ;  cut 7 0  ", NONE);
    dueFault("sly1;dead2;link0 3 4;cut 0 1", NONE);
    dueFault("link 0 1 0;link 0 1 99;link 0 1 099", NONE);
    dueFault("dead 1;dead 1;sly 1;sly 1;cut 0 3", NONE);
  }

  private static void net() {
    ShuffledViews x = new ShuffledViews();
    due("net of nothing", x.net(), NOT);
    type(x, "net 5 2 2 77;dead 1;sly 4;dead 1");
    due("net", x.net(), 4);
    due("letters then", x.told(11), 0);
    due("nodes", x.told(0), 5);
    due("c", x.told(1), 2);
    due("slice", x.told(2), 2);
    due("alive", x.told(3), 29);
    due("draws", x.told(8), 77);
    due("sly", x.node(4, 1), 1);
    dueView("net", x, 4, "0:0 1:0");
    dueView("net", x, 3, "4:0 0:0");
    x.cycle(2);
    int draws = x.told(8);
    String view = x.entry(0, 0, 0) + " " + x.node(0, 4);
    type(x, "sly 2");
    due("net of one", x.net(), 1);
    due("the draws stay", x.told(8), draws);
    due("the dead stay", x.told(3), 29);
    due("the sly stay", x.node(4, 1) + x.node(2, 1), 2);
    if (!view.equals(x.entry(0, 0, 0) + " " + x.node(0, 4))) {
      due("the views stay", 0, 1);
    }
    type(x, "net 3 5 1 1");
    due("net again", x.net(), 1);
    due("all are alive again", x.told(3), 7);
    due("none is sly again", x.node(2, 1), 0);
    dueView("as many as it can", x, 1, "2:0 0:0");
    due("no node 3", x.node(3, 0), UNKNOWN);
    due("entries", x.told(4), 6);
    type(x, "net 8 5 1 1");
    x.net();
    dueView("the view of 7", x, 7, "0:0 1:0 2:0 3:0 4:0");
    type(x, "sly 8");
    due("net with a fault", x.net(), NOT);
    due("its letters stay", x.told(11), 5);
  }

  private static void netClearsTheRest() {
    ShuffledViews x = new ShuffledViews();
    x.keep(0);
    x.keep(1);
    x.round(0);
    x.ring(0);
    x.add(0, 7);
    x.ring(2);
    type(x, "sly");
    due("net with a fault", x.net(), NOT);
    due("all stays", x.told(9) * 10 + x.told(10), 11);
    due("kept yet", x.back(1), 8);
    x.round(0);
    type(x, " 0");
    due("net", x.net(), 1);
    due("nothing to undo", x.undo(), NOT);
    due("nothing kept 0", x.back(0), NOT);
    due("nothing kept 1", x.back(1), NOT);
    due("no ring 0", x.drop(0), NULL);
    due("no ring 2", x.drop(2), NULL);
    due("no numbers", x.told(9), 0);
  }

  private static void linksOfTheText() {
    ShuffledViews x = made("net 6 3 1 1;link 0 4 9");
    dueView("in place of the last", x, 0, "1:0 2:0 4:9");
    x = made("net 6 3 1 1;link 0 1 9");
    dueView("in its place", x, 0, "1:9 2:0 3:0");
    x = made("net 6 3 1 1;cut 0 2;link 0 4 9;link 0 2 5");
    dueView("behind the others, then the last", x, 0, "1:0 3:0 2:5");
    x = made("net 6 3 1 1;cut 0 3;link 0 1 9");
    dueView("in its place, with room", x, 0, "1:9 2:0");
    x = made("net 6 3 1 1;cut 0 5;cut 0 1;cut 0 1");
    dueView("cut", x, 0, "2:0 3:0");
    x = made("dead 0;link 0 3 5");
    dueView("of a dead one", x, 0, "1:0 3:5");
  }

  private static void node() {
    ShuffledViews x = made("net 5 3 1 1;dead 2;sly 3;cut 0 1;cut 0 2");
    int[][] all = {{1, 0, 1, 2, 8}, {1, 0, 3, 2, 28}, {0, 0, 3, 2, 25}, {1, 1, 3, 2, 19}, {1, 0, 3, 2, 7}};
    for (int i = 0; i < 5; i++) {
      for (int what = 0; what < 5; what++) {
        due("node(" + i + ", " + what + ")", x.node(i, what), all[i][what]);
      }
    }
    due("node 5", x.node(5, 0), UNKNOWN);
    due("node -1", x.node(-1, 0), UNKNOWN);
    due("node most", x.node(MOST, 9), UNKNOWN);
    due("what 5", x.node(0, 5), OUTSIDE);
    due("what -1", x.node(4, -1), OUTSIDE);
  }

  private static void entry() {
    ShuffledViews x = made("net 5 3 1 1;link 0 4 42");
    due("entry", x.entry(0, 2, 0), 4);
    due("age", x.entry(0, 2, 1), 42);
    due("behind the last", x.entry(0, 3, 0), NONE);
    due("most", x.entry(0, MOST, 1), NONE);
    due("k below", x.entry(0, -1, 0), OUTSIDE);
    due("k least", x.entry(0, LEAST, 0), OUTSIDE);
    due("what 2", x.entry(0, 0, 2), OUTSIDE);
    due("what -1", x.entry(0, 9, -1), OUTSIDE);
    due("node 5", x.entry(5, -1, 2), UNKNOWN);
    due("node -1", x.entry(-1, 0, 0), UNKNOWN);
  }

  private static void round() {
    ShuffledViews x = new ShuffledViews();
    due("round", x.round(0), 1);
    // 0 sends itself; 1 sends 2, by a draw: 75 and 74, half, left over by 2; 0 comes in place of 2.
    dueView("asker", x, 0, "2:1");
    dueView("asked", x, 1, "0:0 3:0");
    due("draws", x.told(8), 149);
    due("round 4", x.round(4), UNKNOWN);
    due("round -1", x.round(-1), UNKNOWN);
    x.die(2, 1);
    due("round of a dead one", x.round(2), NOT);
    x = made("net 5 4 1 1;link 0 4 8;link 0 3 8;link 0 1 7");
    due("the oldest, of like ones the least", x.round(0), 3);
    // What stays in the view has grown older; of the asked one's view nothing has.
    x = made("net 3 2 1 1;link 0 1 50;link 1 2 30;link 1 0 20");
    due("round", x.round(0), 1);
    dueView("older", x, 0, "2:1");
    dueView("not older", x, 1, "2:30 0:20");
  }

  private static void roundTakesInPlaceOfWhatWasSent() {
    ShuffledViews x = made("net 4 2 2 1");
    due("round", x.round(0), 1);
    // 0 sends 0:0 2:1; 1 sends 2:0 3:0; 1 takes 0 in place of 2, and 2 in place of 3.
    dueView("asked", x, 1, "0:0 2:1");
    dueView("asker", x, 0, "2:1 3:0");
    due("draws", x.told(8), 57305);
    x = made("net 6 3 3 5;cut 0 3;link 0 5 0");
    due("round", x.round(0), 1);
    // 0 sends 0 2 5, 1 sends 2 3 4; 2 comes back, but in its first place is 0: 5 comes in place of 4.
    dueView("asked", x, 1, "0:0 2:1 5:1");
    dueView("asker", x, 0, "4:0 5:1 3:0");
    due("draws", x.told(8), 40314);
    x = made("net 4 3 1 1;cut 1 3");
    x.round(0);
    // 1 has 2 and 0 and room; it sends one by a draw of 2, the first.
    dueView("nothing of one that is there", x, 1, "2:0 0:0");
    x = made("net 5 1 1 1;cut 1 2");
    due("the asked one has nothing to send", x.round(0), 1);
    due("no draw", x.told(8), 1);
    dueView("asker", x, 0, "");
    dueView("asked", x, 1, "0:0");
  }

  private static void roundOfSlyOnes() {
    ShuffledViews x = made("net 4 2 2 1;sly 0");
    due("round of a sly one", x.round(0), 1);
    dueView("asked", x, 1, "0:0 3:0");
    dueView("sly asker", x, 0, "2:1 3:0");
    due("draws", x.told(8), 11249);
    x = made("net 4 2 2 1;sly 1");
    due("a sly one asked", x.round(0), 1);
    dueView("sly asked", x, 1, "2:0 3:0");
    dueView("asker", x, 0, "2:1 1:0");
    due("draws", x.told(8), 149);
  }

  private static void roundOfTheDeadAndTheLonely() {
    ShuffledViews x = made("dead 1");
    due("a dead one asked", x.round(0), 1);
    dueView("it is gone", x, 0, "2:1");
    dueView("it hears nothing", x, 1, "2:0 3:0");
    due("no draw", x.told(8), 1);
    x = made("net 2 1 1 1;cut 0 1");
    due("nobody asked", x.round(0), NONE);
    due("it can be undone", x.told(10), 1);
    due("no draw", x.told(8), 1);
  }

  private static void agesEndAtNinetyNine() {
    ShuffledViews x = made("net 3 2 1 1;link 0 2 99;link 0 1 98;dead 1;dead 2");
    due("like ones at 99", x.next(0), 1);
    due("round", x.round(0), 1);
    dueView("99 at most", x, 0, "2:99");
    x = made("net 3 2 1 1;link 0 2 99;link 0 1 97");
    due("98 and 99", x.next(0), 2);
  }

  private static void cycle() {
    due("cycle 0", new ShuffledViews().cycle(0), OUTSIDE);
    due("cycle 21", new ShuffledViews().cycle(21), OUTSIDE);
    due("cycle least", new ShuffledViews().cycle(LEAST), OUTSIDE);
    ShuffledViews one = made("net 7 4 3 321;dead 5;sly 2");
    ShuffledViews other = made("net 7 4 3 321;dead 5;sly 2");
    due("cycles", one.cycle(20), one.told(4));
    due("one call", one.told(10), 1);
    for (int c = 0; c < 20; c++) {
      for (int i = 0; i < 7; i++) {
        other.round(i);
      }
    }
    due("cycles are rounds of all that are alive", one.told(8), other.told(8));
    for (int i = 0; i < 7; i++) {
      due("views", one.node(i, 4), other.node(i, 4));
    }
    ShuffledViews x = made("net 3 1 1 1");
    due("cycle", x.cycle(1), 3);
    // 0 asks 1 and gets 2 for itself, 1 asks 0 and gets it back; then 2 asks 0 and gets 1.
    dueView("cycle", x, 0, "2:0");
    dueView("cycle", x, 1, "2:0");
    dueView("cycle", x, 2, "1:0");
    x = made("dead 0;dead 1;dead 2;dead 3");
    due("cycle of the dead", x.cycle(20), 8);
    due("it can be undone", x.undo(), 0);
  }

  private static void die() {
    ShuffledViews x = new ShuffledViews();
    due("die", x.die(3, 1), 3);
    due("dead", x.node(3, 0), 0);
    due("so it is", x.die(3, 1), NOT);
    due("alive again", x.die(3, 0), 4);
    due("so it is", x.die(3, 0), NOT);
    dueView("its view stays", x, 3, "0:0 1:0");
    due("is 2", x.die(3, 2), OUTSIDE);
    due("is -1", x.die(3, -1), OUTSIDE);
    due("node 4", x.die(4, 2), UNKNOWN);
    due("node -1", x.die(-1, 1), UNKNOWN);
    for (int i = 0; i < 4; i++) {
      due("all die", x.die(i, 1), 3 - i);
    }
  }

  private static void link() {
    ShuffledViews x = made("net 4 2 1 1;cut 0 1;dead 3");
    due("it is there", x.link(0, 2), NOT);
    due("a dead one", x.link(0, 3), 2);
    dueView("link", x, 0, "2:0 3:0");
    due("no room", x.link(0, 1), FULL);
    due("there, first", x.link(0, 3), NOT);
    due("itself", x.link(0, 0), UNKNOWN);
    due("node 4", x.link(4, 0), UNKNOWN);
    due("node 4", x.link(0, 4), UNKNOWN);
    due("node -1", x.link(-1, 0), UNKNOWN);
    due("node -1", x.link(0, -1), UNKNOWN);
    x = made("net 2 5 1 1;cut 0 1;dead 0");
    due("of a dead one", x.link(0, 1), 1);
  }

  private static void undo() {
    ShuffledViews x = made("net 4 3 2 1;cut 0 3");
    due("nothing", x.undo(), NOT);
    x.link(0, 3);
    x.die(2, 1);
    x.round(0);
    x.cycle(3);
    due("four", x.told(10), 4);
    x.ring(0);
    x.add(0, 5);
    x.write('a');
    due("undo", x.undo(), 3);
    due("undo", x.undo(), 2);
    due("draws", x.told(8), 1);
    dueView("round undone", x, 0, "1:0 2:0 3:0");
    due("dead yet", x.told(3), 11);
    due("undo", x.undo(), 1);
    due("alive again", x.told(3), 15);
    due("undo", x.undo(), 0);
    dueView("link undone", x, 0, "1:0 2:0");
    due("nothing", x.undo(), NOT);
    due("rings and letters stay", x.told(9) * 10 + x.told(11), 11);
    for (int k = 1; k <= 12; k++) {
      x.round(k % 4);
      due("eight at most", x.told(10), Math.min(k, 8));
    }
    int[] draws = new int[13];
    ShuffledViews y = made("net 4 3 2 1;cut 0 3");
    for (int k = 1; k <= 12; k++) {
      y.round(k % 4);
      draws[k] = y.told(8);
    }
    for (int k = 11; k >= 4; k--) {
      due("undo", x.undo(), k - 4);
      due("draws", x.told(8), draws[k]);
    }
    due("nothing", x.undo(), NOT);
  }

  private static void keepAndBack() {
    ShuffledViews x = made("net 4 3 2 9;sly 1");
    due("keep 2", x.keep(2), UNKNOWN);
    due("keep -1", x.keep(-1), UNKNOWN);
    due("back 2", x.back(2), UNKNOWN);
    due("back -1", x.back(-1), UNKNOWN);
    due("back", x.back(0), NOT);
    due("keep", x.keep(0), 12);
    x.die(2, 1);
    int entries = x.cycle(4);
    int draws = x.told(8);
    due("keep leaves what can be undone", x.told(10), 2);
    due("keep", x.keep(1), entries);
    due("the other one", x.back(0), 12);
    due("draws", x.told(8), 9);
    due("alive", x.told(3), 15);
    due("sly", x.node(1, 1), 1);
    dueView("back", x, 0, "1:0 2:0 3:0");
    due("nothing can be undone", x.undo(), NOT);
    due("back", x.back(1), entries);
    due("draws", x.told(8), draws);
    due("alive", x.told(3), 11);
    x.cycle(2);
    due("back again", x.back(1), entries);
    due("draws", x.told(8), draws);
    x.back(0);
    due("kept anew", x.keep(1), 12);
    due("back", x.back(1), 12);
    due("draws", x.told(8), 9);
  }

  private static void forgotten() {
    ShuffledViews x = made("net 3 1 1 1;dead 2");
    // 0 and 1 hand it to and fro.
    due("never", x.forgotten(2), NONE);
    due("alive", x.forgotten(0), NOT);
    due("node 3", x.forgotten(3), UNKNOWN);
    due("node -1", x.forgotten(-1), UNKNOWN);
    x = made("net 2 1 1 1;dead 1");
    due("asked in the first cycle", x.forgotten(1), 1);
    x.cycle(1);
    due("known by none", x.forgotten(1), 0);
    x = made("net 2 1 1 1;dead 1;dead 0");
    due("known by dead ones", x.forgotten(1), 0);
  }

  private static void next() {
    ShuffledViews x = made("net 5 4 1 1;link 0 4 8;link 0 3 8;link 0 1 7;dead 3;cut 2 3;cut 2 4;cut 2 0;cut 2 1");
    due("a dead one, too", x.next(0), 3);
    due("none", x.next(2), NONE);
    due("dead", x.next(3), NOT);
    due("node 5", x.next(5), UNKNOWN);
    due("node -1", x.next(-1), UNKNOWN);
    due("asked", x.round(0), 3);
    due("next", x.next(0), 4);
  }

  private static void spread() {
    ShuffledViews x = made("net 4 2 1 1;cut 0 1;cut 3 1;dead 3");
    // Known: 0 by 2; 1 by none; 2 by 0 and 1. 3 is dead.
    due("now", x.spread(0), 2);
    due("61", x.spread(61), OUTSIDE);
    due("-1", x.spread(-1), OUTSIDE);
    ShuffledViews y = made("net 8 4 2 77;sly 3;dead 1");
    for (int n = 1; n <= 20; n++) {
      int foretold = y.spread(n);
      y.cycle(n);
      due("behind " + n, y.told(5) - y.told(6), foretold);
    }
    y = made("net 8 4 2 77;sly 3;dead 1");
    int sixty = y.spread(60);
    y.cycle(20);
    y.cycle(20);
    y.cycle(20);
    due("behind 60", y.spread(0), sixty);
    x = made("dead 0;dead 1;dead 2;dead 3");
    due("none is alive", x.spread(0), NOT);
    due("outside first", x.spread(61), OUTSIDE);
  }

  private static void far() {
    ShuffledViews x = made("net 8 1 1 1");
    due("seven", x.far(0, 7), 7);
    due("one", x.far(7, 0), 1);
    due("itself", x.far(3, 3), UNKNOWN);
    due("node 8", x.far(0, 8), UNKNOWN);
    due("node -1", x.far(-1, 0), UNKNOWN);
    x.die(4, 1);
    due("not through a dead one", x.far(0, 7), NONE);
    due("up to it", x.far(0, 3), 3);
    due("a dead one", x.far(0, 4), NOT);
    due("a dead one", x.far(4, 0), NOT);
    due("a dead one twice", x.far(4, 4), UNKNOWN);
    x = made("net 4 2 1 1;cut 3 0;cut 3 1");
    due("ways go one way", x.far(3, 0), NONE);
    due("ways go one way", x.far(0, 3), 2);
  }

  private static void ring() {
    ShuffledViews x = new ShuffledViews();
    due("ring", x.ring(0), 0);
    due("ring", x.ring(2), 0);
    due("ring 3", x.ring(3), UNKNOWN);
    due("ring -1", x.ring(-1), UNKNOWN);
    due("missing yet", x.sum(1), NULL);
    x.add(0, 5);
    x.add(0, 6);
    due("a new one", x.ring(0), 0);
    due("with nothing", x.take(0), EMPTY);
    due("no hand", x.add(0, 3), 1);
    due("at it", x.step(0, 0), 5003);
  }

  private static void add() {
    ShuffledViews x = new ShuffledViews();
    due("missing", x.add(1, 0), NULL);
    due("outside first", x.add(1, 1000), OUTSIDE);
    due("ring 3", x.add(3, 1000), UNKNOWN);
    due("ring -1", x.add(-1, 0), UNKNOWN);
    x.ring(1);
    due("-1000", x.add(1, -1000), OUTSIDE);
    for (int k = 1; k <= 8; k++) {
      due("add", x.add(1, 111 * (k - 4)), k);
    }
    due("no room", x.add(1, 1), ROOM);
    due("outside first", x.add(1, MOST), OUTSIDE);
    int[] order = {-333, 444, 333, 222, 111, 0, -111, -222};
    for (int k = 0; k < 8; k++) {
      due("order", x.step(1, k == 0 ? 0 : 1), order[k] + 5000);
    }
    x.take(1);
    due("behind the hand", x.add(1, 999), 8);
    due("the hand stays", x.step(1, 0), 5000 - 333);
    due("right behind it", x.step(1, 1), 5999);
    x.ring(1);
    x.add(1, -999);
    due("least", x.step(1, 0), 4001);
    x.add(1, 7);
    x.step(1, 1);
    x.add(1, 8);
    due("behind the last", x.step(1, 1), 5008);
    due("and round", x.step(1, 1), 4001);
  }

  private static void step() {
    ShuffledViews x = new ShuffledViews();
    due("missing", x.step(0, 0), NULL);
    due("outside first", x.step(0, -1), OUTSIDE);
    due("ring 3", x.step(3, 100), UNKNOWN);
    x.ring(0);
    due("empty", x.step(0, 99), EMPTY);
    due("100", x.step(0, 100), OUTSIDE);
    x.add(0, 1);
    x.add(0, 3);
    x.add(0, 2);
    due("on", x.step(0, 1), 5002);
    due("nowhere", x.step(0, 0), 5002);
    due("round and round", x.step(0, 99), 5002);
    due("round and round", x.step(0, 98), 5001);
    x.ring(0);
    x.add(0, 42);
    due("one alone", x.step(0, 55), 5042);
  }

  private static void take() {
    ShuffledViews x = new ShuffledViews();
    due("missing", x.take(0), NULL);
    due("ring 3", x.take(3), UNKNOWN);
    due("ring -1", x.take(-1), UNKNOWN);
    x.ring(0);
    due("empty", x.take(0), EMPTY);
    x.add(0, 1);
    x.add(0, 3);
    x.add(0, 2);
    due("take", x.take(0), 5001);
    due("the next one", x.step(0, 0), 5002);
    due("on", x.step(0, 1), 5003);
    due("the last of the row", x.take(0), 5003);
    due("the next one is the first", x.take(0), 5002);
    due("empty", x.take(0), EMPTY);
    due("none is missing", x.sum(0), 50000);
  }

  private static void count() {
    ShuffledViews x = new ShuffledViews();
    due("missing", x.count(2, 1), NULL);
    due("outside first", x.count(2, 0), OUTSIDE);
    due("10", x.count(2, 10), OUTSIDE);
    due("ring 3", x.count(3, 0), UNKNOWN);
    x.ring(2);
    due("empty", x.count(2, 1), EMPTY);
    x.add(2, 1);
    for (int v = 5; v > 1; v--) {
      x.add(2, v);
    }
    // 1 2 3 4 5, the hand at 1: by twos 3 goes (the hand is at 4), then 1, 5 and 2.
    due("count", x.count(2, 2), 5004);
    due("one is left", x.told(9), 1);
    due("the hand is at it", x.step(2, 0), 5004);
    due("one alone", x.count(2, 9), 5004);
    due("it stays", x.told(9), 1);
    for (int size = 1; size <= 8; size++) {
      for (int m = 1; m <= 9; m++) {
        x = new ShuffledViews();
        x.ring(0);
        x.add(0, 1);
        for (int v = size; v > 1; v--) {
          x.add(0, v);
        }
        due("count of " + size + " by " + m, x.count(0, m), 5000 + counted(size, m));
      }
    }
  }

  /** Who is left of 1 .. size in a ring, the hand at 1, by the known rule of Josephus. */
  private static int counted(int size, int m) {
    int left = 0;
    for (int k = 2; k <= size; k++) {
      left = (left + m + 1) % k;
    }
    return left + 1;
  }

  private static void sum() {
    ShuffledViews x = new ShuffledViews();
    due("missing", x.sum(0), NULL);
    due("ring 3", x.sum(3), UNKNOWN);
    due("ring -1", x.sum(-1), UNKNOWN);
    x.ring(0);
    due("nothing", x.sum(0), 50000);
    x.add(0, -999);
    x.add(0, 5);
    due("sum", x.sum(0), 49006);
    x.ring(1);
    for (int k = 0; k < 8; k++) {
      x.add(1, -999);
    }
    due("least", x.sum(1), 42008);
  }

  private static void drop() {
    ShuffledViews x = new ShuffledViews();
    due("missing", x.drop(0), NULL);
    due("ring 3", x.drop(3), UNKNOWN);
    due("ring -1", x.drop(-1), UNKNOWN);
    x.ring(0);
    due("nothing", x.drop(0), 0);
    x.ring(0);
    x.add(0, 4);
    x.add(0, 4);
    due("drop", x.drop(0), 2);
    due("missing", x.drop(0), NULL);
    due("missing", x.add(0, 1), NULL);
    due("no numbers", x.told(9), 0);
  }

  private static void told() {
    ShuffledViews x = made("net 8 5 4 999;dead 0;dead 7;cut 1 2;cut 3 4;cut 3 5");
    x.ring(0);
    x.ring(1);
    x.add(0, 9);
    x.add(1, 8);
    x.add(1, 7);
    x.keep(0);
    x.write(1);
    // Of 1 .. 6, by others of 1 .. 6: 1 by 4 5 6; 2 by 5 6; 3 by 1 2 6; 4 by 1 2; 5 by 1 2 4; 6 by 1 to 5.
    int[] told = {8, 5, 4, 126, 37, 5, 2, 1, 999, 3, 0, 1};
    for (int what = 0; what < told.length; what++) {
      due("told(" + what + ")", x.told(what), told[what]);
    }
    due("told(12)", x.told(12), OUTSIDE);
    due("told(-1)", x.told(-1), OUTSIDE);
    due("told least", x.told(LEAST), OUTSIDE);
    x = made("dead 0;dead 1;dead 2;dead 3");
    due("none alive", x.told(5), NONE);
    due("none alive", x.told(6), NONE);
    due("no parts", x.told(7), 0);
    x = made("net 8 1 1 1;dead 0;dead 3;cut 6 7");
    // 1 to 2; 4 to 5 to 6; 7 to 0 alone.
    due("parts", x.told(7), 3);
    x = made("net 8 1 1 1;cut 7 0;cut 1 2;link 3 1 0;link 5 1 0");
    // 0 to 1, from 3 and 5, too; 2 to 3; 4 to 5; 6 to 7.
    due("parts either way and by third ones", x.told(7), 2);
  }
}
