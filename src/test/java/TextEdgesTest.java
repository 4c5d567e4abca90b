/** The edges that section 1 of the document's terms names: a net at first, and the text that tells of one. */
public final class TextEdgesTest extends Probe {
  private static final int BLANK = ' ';

  public static void main(String[] args) {
    sentence("A NET has NODES 0 .. n less 1 (n 2 ..", TextEdgesTest::nodes);
    sentence("8; 4 at first), each ALIVE or DEAD", TextEdgesTest::nodesAtFirst);
    sentence("at most c ENTRIES (c 1 .. 5; 2 at first), in a row", TextEdgesTest::entries);
    sentence("each of another NODE (unlike ones)", TextEdgesTest::unlikeOthers);
    sentence("with an AGE (0 .. 99)", TextEdgesTest::ages);
    sentence("SLICE is 1 .. c (1 at first)", TextEdgesTest::slices);
    sentence("THE DRAWS begin as a SEED (1 .. 999; 1 at first)", TextEdgesTest::seeds);
    sentence("At first all are ALIVE, none is SLY", TextEdgesTest::allAliveNoneSly);
    sentence("each VIEW has the next NODES by number (0 behind the last)", TextEdgesTest::nextNodes);
    sentence("as many as it can, that are others, AGE 0", TextEdgesTest::asManyAsItCan);
    sentence("THE TEXT is a row of letters, 200 at most", TextEdgesTest::twoHundredLetters);
    sentence("CLAUSES with ; between, 24 at most", TextEdgesTest::twentyFourClauses);
    sentence("each is one of: net N C L S. dead J. sly J. link I J A. cut I J.", TextEdgesTest::words);
    sentence("all else as at first", TextEdgesTest::allElseAsAtFirst);
    sentence("dead, sly: NODE J is so, also if it is", TextEdgesTest::soAlsoIfItIs);
    sentence("in the VIEW of I there is J, another one, of AGE A, 0 to 99", TextEdgesTest::linkBounds);
    sentence("behind the others, if there is room", TextEdgesTest::linkBehindTheOthers);
    sentence("in its place, if it is there", TextEdgesTest::linkInItsPlace);
    sentence("else in place of the last one", TextEdgesTest::linkInPlaceOfTheLast);
    sentence("cut: J is not in the VIEW of I any more, if it was", TextEdgesTest::cuts);
    sentence("small letters a .. z, numbers of 1 to 3 digits", TextEdgesTest::everySign);
    sentence("numbers of 1 to 3 digits", TextEdgesTest::digits);
    sentence("blanks between", TextEdgesTest::blanks);
    sentence("what was there stays", TextEdgesTest::whatWasThereStays);
    sentence("A FAULT is at the first TOKEN", TextEdgesTest::firstOfSeveralFaults);
    sentence("(a row of small letters, a row of digits, any other letter) that cannot stand there", TextEdgesTest::tokens);
    sentence("(a number out of its bounds, of more digits, J like I, also)", TextEdgesTest::numbersOutOfBounds);
    sentence("or at the end, if it comes too soon", TextEdgesTest::endTooSoon);
    sentence("CLAUSES are done in their order", TextEdgesTest::inTheirOrder);
    sentence("Behind them nothing is kept or can be undone; RINGS are all missing", TextEdgesTest::nothingBehindThem);
    end("the edges of nets and texts hold");
  }

  private static void nodes() {
    for (int n : new int[] {0, 1, 9, 10, 18, 99, 999}) {
      dueFault("net " + n + " 1 1 1", 4);
    }
    for (int n = 2; n <= 8; n++) {
      dueFault("net " + n + " 1 1 1", NONE);
      ShuffledViews x = made("net " + n + " 1 1 1");
      due("nodes of " + n, x.told(0), n);
      due("the first of " + n, x.node(0, 0), 1);
      due("the last of " + n, x.node(n - 1, 0), 1);
      due("ahead of the first of " + n, x.node(-1, 0), UNKNOWN);
      due("behind the last of " + n, x.node(n, 0), UNKNOWN);
    }
  }

  private static void nodesAtFirst() {
    ShuffledViews x = new ShuffledViews();
    due("nodes", x.told(0), 4);
    due("node 3", x.node(3, 0), 1);
    due("node 4", x.node(4, 0), UNKNOWN);
  }

  private static void entries() {
    due("c", new ShuffledViews().told(1), 2);
    for (int c : new int[] {0, 6, 7, 10, 15, 999}) {
      dueFault("net 8 " + c + " 1 1", 6);
    }
    for (int c = 1; c <= 5; c++) {
      dueFault("net 8 " + c + " 1 1", NONE);
      ShuffledViews x = made("net 8 " + c + " " + c + " 7");
      due("c", x.told(1), c);
      int most = 0;
      for (int k = 0; k < 25; k++) {
        for (int i = 0; i < 8; i++) {
          most = Math.max(most, x.node(i, 2));
        }
        x.cycle(1);
      }
      due("the most entries in a view of " + c, most, c);
    }
  }

  private static void unlikeOthers() {
    for (int c = 1; c <= 5; c++) {
      ShuffledViews x = made("net 7 " + c + " " + c + " 31;sly 3");
      for (int k = 0; k < 20; k++) {
        x.cycle(1);
        for (int i = 0; i < 7; i++) {
          int bits = x.node(i, 4);
          due("unlike ones", Integer.bitCount(bits), x.node(i, 2));
          due("others", bits & (1 << i | ~127), 0);
        }
      }
    }
  }

  private static void ages() {
    due("age 0", made("link 0 1 0").entry(0, 0, 1), 0);
    due("age 1", made("link 0 1 1").entry(0, 0, 1), 1);
    due("age 98", made("link 0 1 98").entry(0, 0, 1), 98);
    due("age 99", made("link 0 1 99").entry(0, 0, 1), 99);
    dueFault("link 0 1 100", 9);
    dueFault("link 0 1 999", 9);
  }

  private static void slices() {
    due("at first", new ShuffledViews().told(2), 1);
    for (int c = 1; c <= 5; c++) {
      dueFault("net 8 " + c + " 0 1", 8);
      for (int slice = 1; slice <= c; slice++) {
        dueFault("net 8 " + c + " " + slice + " 1", NONE);
        due("slice", made("net 8 " + c + " " + slice + " 1").told(2), slice);
      }
      dueFault("net 8 " + c + " " + (c + 1) + " 1", 8);
    }
    // Few nodes make a view small, but not c.
    dueFault("net 2 5 5 1", NONE);
  }

  private static void seeds() {
    due("at first", new ShuffledViews().told(8), 1);
    dueFault("net 4 2 1 0", 10);
    dueFault("net 4 2 1 000", 10);
    due("seed 1", made("net 4 2 1 1").told(8), 1);
    due("seed 2", made("net 4 2 1 2").told(8), 2);
    due("seed 998", made("net 4 2 1 998").told(8), 998);
    due("seed 999", made("net 4 2 1 999").told(8), 999);
    dueFault("net 4 2 1 1000", 10);
  }

  private static void allAliveNoneSly() {
    for (int n = 2; n <= 8; n++) {
      ShuffledViews x = made("dead 0;sly 1;net " + n + " 5 1 1");
      due("alive", x.told(3), (1 << n) - 1);
      for (int i = 0; i < n; i++) {
        due("alive", x.node(i, 0), 1);
        due("sly", x.node(i, 1), 0);
      }
    }
  }

  private static void nextNodes() {
    ShuffledViews x = made("net 8 5 1 1");
    dueView("from the first on", x, 0, "1:0 2:0 3:0 4:0 5:0");
    dueView("up to the last", x, 2, "3:0 4:0 5:0 6:0 7:0");
    dueView("one behind the last", x, 3, "4:0 5:0 6:0 7:0 0:0");
    dueView("from the last but one", x, 6, "7:0 0:0 1:0 2:0 3:0");
    dueView("from the last on", x, 7, "0:0 1:0 2:0 3:0 4:0");
    x = made("net 2 1 1 1");
    dueView("of two", x, 0, "1:0");
    dueView("of two", x, 1, "0:0");
  }

  private static void asManyAsItCan() {
    for (int n = 2; n <= 8; n++) {
      for (int c = 1; c <= 5; c++) {
        ShuffledViews x = made("net " + n + " " + c + " 1 1");
        for (int i = 0; i < n; i++) {
          due("entries of " + i + " in " + n + " by " + c, x.node(i, 2), Math.min(c, n - 1));
          due("age of the last", x.entry(i, Math.min(c, n - 1) - 1, 1), 0);
        }
      }
    }
    dueView("fewer others than c", made("net 4 5 1 1"), 1, "2:0 3:0 0:0");
    dueView("as many others as c", made("net 4 3 1 1"), 1, "2:0 3:0 0:0");
    dueView("more others than c", made("net 4 2 1 1"), 1, "2:0 3:0");
  }

  private static void twoHundredLetters() {
    String padding = " ".repeat(195);
    ShuffledViews x = written(padding + "sly ");
    due("letters", x.told(11), 199);
    due("the 200th", x.write('1'), 200);
    due("the 201st", x.write('1'), FULL);
    due("letters", x.told(11), 200);
    due("a fault", x.fault(), NONE);
    due("clauses", x.net(), 1);
    due("node 1", x.node(1, 1), 1);
    dueFault(padding + "sly 9", 199);
    dueFault(padding + "slyx ", 195);
    dueFault(" ".repeat(200), 200);
    dueFault(" ".repeat(197) + "sly", 200);
  }

  private static void twentyFourClauses() {
    String clause = "cut 0 1";
    due("one", written(clause).net(), 1);
    due("two", written(clause + ";" + clause).net(), 2);
    String most = clause + (";" + clause).repeat(23);
    due("23", written(clause + (";" + clause).repeat(22)).net(), 23);
    due("24", written(most).net(), 24);
    dueFault(most, NONE);
    String clauses = "sly 1" + ";sly 1".repeat(23);
    // No text that stands goes on with a ; behind the 24th.
    dueFault(clauses + ";sly 1", clauses.length());
    dueFault(clauses + ";", clauses.length());
    dueFault(clauses + " ;", clauses.length() + 1);
    due("25", written(clauses + ";sly 1").net(), NOT);
    dueUnchanged("net of 25", () -> written(clauses.replace('1', '2') + ";sly 1"), x -> x.net(), NOT);
    // Every one of the 24 is done.
    due("the last of 24", made("dead 1" + ";dead 1".repeat(22) + ";sly 3").node(3, 1), 1);
  }

  private static void words() {
    String[] stand = {"net 2 1 1 1", "dead 0", "sly 0", "link 0 1 0", "cut 0 1"};
    for (String text : stand) {
      dueFault(text, NONE);
      dueFault(text.substring(1), 0);
      dueFault("x" + text, 0);
      dueFault(text.replaceFirst(" ", "s "), 0);
      dueFault(text.replaceFirst("[a-z] ", " "), 0);
      dueFault(Character.toUpperCase(text.charAt(0)) + text.substring(1), 0);
      dueFault(text + " 0", text.length() + 1);
      dueFault(text + ".", text.length());
      for (int k = 0; text.charAt(k) != ' '; k++) {
        dueFault(text.substring(0, k) + 'x' + text.substring(k + 1), 0);
      }
    }
    dueFault("netdead 0", 0);
    dueFault("undo 1", 0);
  }

  private static void allElseAsAtFirst() {
    String other = "dead 1;sly 2;link 0 3 9;cut 3 0;net 4 2 1 1";
    dueSame("all", all(made(other)), all(new ShuffledViews()));
    ShuffledViews x = made("net 8 5 5 999;dead 7;sly 6");
    x.cycle(3);
    type(x, "net 4 2 1 1");
    due("net", x.net(), 1);
    dueSame("all", all(x), all(new ShuffledViews()));
    type(x, "net 8 5 5 999");
    due("net", x.net(), 1);
    dueSame("all", all(x), all(made("net 8 5 5 999")));
  }

  private static void soAlsoIfItIs() {
    for (int n = 2; n <= 8; n++) {
      String net = "net " + n + " 1 1 1;";
      dueFault(net + "dead 0;dead " + (n - 1), NONE);
      dueFault(net + "dead " + n, 17);
      dueFault(net + "sly 0;sly " + (n - 1), NONE);
      dueFault(net + "sly " + n, 16);
    }
    ShuffledViews x = made("dead 1;dead 1;sly 2;sly 2");
    due("alive", x.told(3), 13);
    due("sly", x.node(2, 1), 1);
    type(x, "dead 1;sly 2");
    due("net", x.net(), 2);
    due("alive", x.told(3), 13);
    due("sly", x.node(2, 1), 1);
    x = made("sly 1;dead 1;sly 1");
    due("dead and sly", x.node(1, 0) * 10 + x.node(1, 1), 1);
  }

  private static void linkBounds() {
    for (int n = 2; n <= 8; n++) {
      String net = "net " + n + " 1 1 1;";
      int last = n - 1;
      dueFault(net + "link 0 " + last + " 0", NONE);
      dueFault(net + "link " + last + " 0 99", NONE);
      dueFault(net + "link " + n + " 0 0", 17);
      dueFault(net + "link 0 " + n + " 0", 19);
      dueFault(net + "link 0 0 0", 19);
      dueFault(net + "link " + last + " " + last + " 0", 19);
      dueFault(net + "link 0 1 100", 21);
    }
    dueView("of age 99", made("net 8 1 1 1;link 7 6 99"), 7, "6:99");
  }

  private static void linkBehindTheOthers() {
    String none = "net 6 5 1 1;cut 0 1;cut 0 2;cut 0 3;cut 0 4;cut 0 5";
    dueView("none", made(none), 0, "");
    dueView("the first", made(none + ";link 0 3 7"), 0, "3:7");
    dueView("the second", made(none + ";link 0 3 7;link 0 1 9"), 0, "3:7 1:9");
    dueView("the last that there is room for", made("net 8 5 1 1;cut 0 2;link 0 7 4"), 0, "1:0 3:0 4:0 5:0 7:4");
    dueView("a view of one", made("net 4 1 1 1;cut 0 1;link 0 3 1"), 0, "3:1");
  }

  private static void linkInItsPlace() {
    dueView("the first", made("net 5 3 1 1;link 0 1 9"), 0, "1:9 2:0 3:0");
    dueView("the middle one", made("net 5 3 1 1;link 0 2 9"), 0, "1:0 2:9 3:0");
    dueView("the last", made("net 5 3 1 1;link 0 3 9"), 0, "1:0 2:0 3:9");
    dueView("a lesser age", made("net 5 3 1 1;link 0 1 9;link 0 1 0"), 0, "1:0 2:0 3:0");
    dueView("with room", made("net 3 5 1 1;link 0 1 9"), 0, "1:9 2:0");
    dueView("the only one", made("net 2 1 1 1;link 0 1 9"), 0, "1:9");
  }

  private static void linkInPlaceOfTheLast() {
    dueView("of three", made("net 8 3 1 1;link 0 7 9"), 0, "1:0 2:0 7:9");
    dueView("of one", made("net 8 1 1 1;link 0 7 9"), 0, "7:9");
    dueView("of five", made("net 8 5 1 1;link 0 7 9"), 0, "1:0 2:0 3:0 4:0 7:9");
    dueView("again", made("net 8 3 1 1;link 0 7 9;link 0 6 8"), 0, "1:0 2:0 6:8");
  }

  private static void cuts() {
    dueView("the first", made("net 5 3 1 1;cut 0 1"), 0, "2:0 3:0");
    dueView("the middle one", made("net 5 3 1 1;link 0 3 8;cut 0 2"), 0, "1:0 3:8");
    dueView("the last", made("net 5 3 1 1;cut 0 3"), 0, "1:0 2:0");
    dueView("not there", made("net 5 3 1 1;cut 0 4"), 0, "1:0 2:0 3:0");
    dueView("the only one", made("net 5 1 1 1;cut 0 1"), 0, "");
    dueView("of none", made("net 5 1 1 1;cut 0 1;cut 0 1;cut 0 2"), 0, "");
    ShuffledViews x = made("net 5 3 1 1;cut 0 1");
    due("the other way stays", x.node(1, 4), 4 + 8 + 16);
    dueFault("net 5 1 1 1;cut 4 0;cut 0 4", NONE);
    dueFault("net 5 1 1 1;cut 5 0", 16);
    dueFault("net 5 1 1 1;cut 0 5", 18);
    dueFault("net 5 1 1 1;cut 4 4", 18);
  }

  /** Each of the 256 letters, behind a clause and between its word and its number. */
  private static void everySign() {
    for (int sign = 0; sign <= 255; sign++) {
      boolean isDigit = sign >= '0' && sign <= '9';
      boolean isSmall = sign >= 'a' && sign <= 'z';
      int behind = sign == BLANK ? NONE : sign == ';' ? 6 : isDigit ? 4 : 5;
      dueFault("sly 1" + (char) sign, behind);
      int between = sign == BLANK || sign == '0' ? NONE : isSmall ? 0 : 3;
      dueFault("sly" + (char) sign + "1", between);
      due("as a first letter", written((char) sign + "").fault(), sign == BLANK ? 1 : 0);
    }
  }

  private static void digits() {
    due("one digit", made("sly 1").node(1, 1), 1);
    due("two digits", made("sly 01").node(1, 1), 1);
    due("three digits", made("sly 001").node(1, 1), 1);
    due("zero of three digits", made("sly 000").node(0, 1), 1);
    dueFault("sly 0001", 4);
    dueFault("sly 0000", 4);
    String[] clause = {"net", "004", "002", "001", "099"};
    dueFault(String.join(" ", clause), NONE);
    for (int k = 1; k < clause.length; k++) {
      String[] longer = clause.clone();
      longer[k] = "0" + longer[k];
      dueFault(String.join(" ", longer), 4 * k);
    }
    dueFault("link 0000 1 0", 5);
    dueFault("link 0 0001 0", 7);
    dueFault("link 0 1 0000", 9);
    dueFault("cut 0000 1", 4);
    dueFault("cut 0 0001", 6);
    // 1 more than what 32 and 64 bits hold.
    dueFault("sly 4294967297", 4);
    dueFault("sly 18446744073709551617", 4);
    dueFault("sly " + "0".repeat(195) + "1", 4);
  }

  private static void blanks() {
    dueFault("   sly   1   ;   cut   0   1   ", NONE);
    dueFault("sly 1;cut 0 1", NONE);
    dueFault("sly1;cut0 1", NONE);
    dueFault("s ly 1", 0);
    dueFault("sly 0 1", 6);
    dueFault("cut 01", 6);
    dueFault("sly" + (char) 9 + "1", 3);
    dueFault("sly" + (char) 10 + "1", 3);
    dueFault("sly" + (char) 160 + "1", 3);
    dueFault("sly" + (char) 0 + "1", 3);
  }

  private static void whatWasThereStays() {
    ShuffledViews x = made("net 6 3 2 77;dead 4;sly 5");
    x.cycle(2);
    ShuffledViews y = made("net 6 3 2 77;dead 4;sly 5");
    y.cycle(2);
    type(x, "cut 0 0;sly 5".replace("0 0", "0 " + absent(y, 0)));
    due("net", x.net(), 2);
    dueSame("the net", net(x), net(y));
  }

  private static int absent(ShuffledViews x, int node) {
    int j = 1;
    while ((x.node(node, 4) >> j & 1) == 1) {
      j++;
    }
    return j;
  }

  private static void firstOfSeveralFaults() {
    dueFault("sly 9;bad 1", 4);
    dueFault("bad 9", 0);
    dueFault("net 9 9 9 9", 4);
    dueFault("net 8 9 9 9", 6);
    dueFault("net 8 5 9 1000", 8);
    dueFault("link 9 9 999", 5);
    dueFault("link 1 1 999", 7);
    dueFault("cut 0 1;;", 8);
    dueFault("dead 1 , sly", 7);
  }

  private static void tokens() {
    dueFault("abcsly 1", 0);
    dueFault("sly 12345", 4);
    dueFault("sly 1 abc", 6);
    dueFault("sly 1 234", 6);
    dueFault("sly 1,", 5);
    dueFault("sly  ,,", 5);
    dueFault("sly 1abc", 5);
    dueFault("123", 0);
    dueFault("  ;", 2);
    dueFault("sly;1", 3);
    dueFault("sly sly", 4);
    dueFault("cut 0;1", 5);
    dueFault("link 0 1;2", 8);
    dueFault("net 4 2 1;1", 9);
    dueFault("sly 1;;sly 1", 6);
    dueFault("sly 1;2", 6);
    dueFault("SLY 1", 0);
  }

  private static void numbersOutOfBounds() {
    // How many nodes there are then is told by the last net ahead of it, or by the net as it is.
    dueFault("dead 3", NONE);
    dueFault("dead 4", 5);
    dueFault("dead 7;net 8 1 1 1", 5);
    dueFault("net 8 1 1 1;dead 7", NONE);
    dueFault("net 8 1 1 1;net 2 1 1 1;dead 2", 29);
    dueFault("net 8 1 1 1;net 2 1 1 1;dead 1", NONE);
    ShuffledViews x = made("net 8 1 1 1");
    type(x, "dead 7");
    due("in a net of eight", x.fault(), NONE);
    dueFault("cut 0 0", 6);
    dueFault("cut 3 003", 6);
    dueFault("link 2 02 0", 7);
    // More digits, though the number is within its bounds.
    dueFault("dead 0003", 5);
  }

  private static void endTooSoon() {
    String[] tooSoon = {
      "", " ", "net", "net ", "net 4", "net 4 2", "net 4 2 1", "net 4 2 1 ", "dead", "dead  ", "sly", "link", "link 0",
      "link 0 1", "link 0 1  ", "cut", "cut 0", "cut 0 ", "sly 1;", "sly 1; ", "sly 1;dead", "sly 1;cut 0"};
    for (String text : tooSoon) {
      dueFault(text, text.length());
      dueUnchanged("net of '" + text + "'", () -> written(text), x -> x.net(), NOT);
    }
  }

  private static void inTheirOrder() {
    dueView("cut, then link", made("net 4 3 1 1;cut 0 1;link 0 1 9"), 0, "2:0 3:0 1:9");
    dueView("link, then cut", made("net 4 3 1 1;link 0 1 9;cut 0 1"), 0, "2:0 3:0");
    due("dead, then net", made("dead 1;net 4 2 1 1").told(3), 15);
    due("net, then dead", made("net 4 2 1 1;dead 1").told(3), 13);
    ShuffledViews x = made("net 8 5 5 9;net 2 1 1 7");
    due("the last net", x.told(0) * 1000 + x.told(8), 2007);
  }

  private static void nothingBehindThem() {
    ShuffledViews x = busy();
    due("net", x.net(), 2);
    due("undo", x.undo(), NOT);
    due("can be undone", x.told(10), 0);
    due("back 0", x.back(0), NOT);
    due("back 1", x.back(1), NOT);
    for (int r = 0; r < 3; r++) {
      due("ring " + r, x.drop(r), NULL);
    }
    due("numbers", x.told(9), 0);
    due("letters", x.told(11), 0);
    // A text with a fault is none that was done.
    dueUnchanged("net with a fault", TextEdgesTest::busyWithAFault, y -> y.net(), NOT);
  }

  private static ShuffledViews busyWithAFault() {
    ShuffledViews x = busy();
    x.write(';');
    return x;
  }
}
