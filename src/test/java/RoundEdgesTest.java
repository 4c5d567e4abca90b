/** The edges that sections 2 and 3 of the document's terms name: draws, rounds, cycles, who is known, what is foretold. */
public final class RoundEdgesTest extends Probe {
  public static void main(String[] args) {
    sentence("A DRAW of m (1 or more)", RoundEdgesTest::drawOfOne);
    sentence("THE DRAWS become what they are times 75 and 74, left over by 65537", RoundEdgesTest::drawsGoRound);
    sentence("half of that (cut), left over by m", RoundEdgesTest::halfCut);
    sentence("the AGE of each ENTRY in its VIEW is 1 more (99 at most)", RoundEdgesTest::ninetyNineAtMost);
    sentence("If there is none, that is all.", RoundEdgesTest::noEntry);
    sentence("ASKED: the ENTRY of the greatest AGE, of like ones of the least NODE", RoundEdgesTest::asked);
    sentence("it is struck off the VIEW", RoundEdgesTest::struckOff);
    sentence("If that NODE is DEAD, that is all.", RoundEdgesTest::askedIsDead);
    sentence("so long as there are fewer than SLICE and some ENTRY of its VIEW is not sent", RoundEdgesTest::howManyAreSent);
    sentence("Else i SENDS: i itself, AGE 0; then, if it is not SLY", RoundEdgesTest::slyAsker);
    sentence("but without itself ahead, of its own VIEW, SLICE at most", RoundEdgesTest::askedWithFew);
    sentence("if it is SLY, itself alone, AGE 0", RoundEdgesTest::slyAsked);
    sentence("of itself, or of one that is in the VIEW, nothing is taken", RoundEdgesTest::nothingTaken);
    sentence("else, if there is room, it comes behind the others", RoundEdgesTest::roomToTake);
    sentence("else it comes in the place of the first of those which it SENT itself", RoundEdgesTest::placeOfTheFirstSent);
    sentence("that is in the VIEW yet and in whose place nothing came", RoundEdgesTest::eachPlaceOnce);
    sentence("if there is none, it is not taken", RoundEdgesTest::noPlaceLeft);
    sentence("A CYCLE: a ROUND of each NODE that is ALIVE, by number", RoundEdgesTest::cycleByNumber);
    sentence("KNOWN: by how many VIEWS of ALIVE ones (others) it is held", RoundEdgesTest::known);
    sentence("WAYS lead from an ALIVE NODE to those in its VIEW that are ALIVE", RoundEdgesTest::ways);
    sentence("hang together, by WAYS either way, and by third ones; how many such classes there are", RoundEdgesTest::parts);
    sentence("FORETOLD (nothing changes)", RoundEdgesTest::foretoldChangesNothing);
    sentence("the fewest CYCLES (0 .. 60) behind which it is KNOWN by none; none", RoundEdgesTest::sixtyCycles);
    sentence("who would be ASKED in its ROUND; none (it has no ENTRIES)", RoundEdgesTest::nextOrNone);
    sentence("SPREAD behind n CYCLES (0 .. 60)", RoundEdgesTest::spreadBehindSixty);
    sentence("FAR from one ALIVE NODE to another: the fewest WAYS; none", RoundEdgesTest::fewestWays);
    end("the edges of rounds and of what is foretold hold");
  }

  private static void drawOfOne() {
    // 0 has nobody left to send but itself; 1 has 0 alone, and draws though there is nothing to choose.
    ShuffledViews x = made("net 2 1 1 1");
    due("round", x.round(0), 1);
    due("the draws", x.told(8), 149);
    due("round of one that asks who has none", x.round(1), 0);
    due("no draw of none", x.told(8), 149);
  }

  private static void drawsGoRound() {
    due("872 goes not round", behindOneDraw(872), 65474);
    due("873 goes round", behindOneDraw(873), 12);
    due("999 goes round", behindOneDraw(999), 9462);
    // These seeds come to the least and to the greatest that can be left over.
    drawOnAndOn(257, 106, 0);
    drawOnAndOn(913, 13, 65535);
  }

  private static int behindOneDraw(int seed) {
    ShuffledViews x = made("net 2 1 1 " + seed);
    x.round(0);
    return x.told(8);
  }

  private static void drawOnAndOn(int seed, int times, int want) {
    ShuffledViews x = made("net 2 1 1 " + seed);
    for (int k = 0; k <= times; k++) {
      due("the draws of " + seed + " behind " + k, x.told(8), drawn(seed, k));
      if (k == times) {
        due("the draws of " + seed, x.told(8), want);
      }
      x.round(0);
      x.link(0, 1);
    }
    due("one draw more", x.told(8), drawn(want, 1));
  }

  private static void halfCut() {
    // 1 sends one of 2 and 3, by half of 149, of 224, of 299 and of 374: 74, 112, 149, 187.
    String[] views = {"0:0 3:0", "0:0 3:0", "2:0 0:0", "2:0 0:0"};
    for (int seed = 1; seed <= 4; seed++) {
      ShuffledViews x = made("net 4 2 1 " + seed);
      x.round(0);
      dueView("seed " + seed, x, 1, views[seed - 1]);
    }
    // Of five: half of 149 is 74, of 224 112, of 12 6, of 87 (cut) 43; left over by 5 that is 4, 2, 1, 3.
    int[][] places = {{1, 4}, {2, 2}, {873, 1}, {874, 3}};
    for (int[] pair : places) {
      ShuffledViews x = made("net 8 5 1 " + pair[0]);
      x.round(0);
      due("seed " + pair[0] + ": in place of what 1 sent is", x.entry(1, pair[1], 0), 0);
    }
  }

  private static void ninetyNineAtMost() {
    ShuffledViews x = made("net 6 4 1 1;dead 1;dead 2;dead 3;dead 4;link 0 1 99;link 0 2 99;link 0 3 98;link 0 4 97");
    due("round", x.round(0), 1);
    dueView("one more", x, 0, "2:99 3:99 4:98");
    due("round", x.round(0), 2);
    dueView("two more", x, 0, "3:99 4:99");
    due("round", x.round(0), 3);
    dueView("three more", x, 0, "4:99");
    x = made("net 3 2 1 1;dead 1;dead 2");
    due("round", x.round(0), 1);
    dueView("from 0", x, 0, "2:1");
    dueView("of the others nothing", x, 1, "2:0 0:0");
  }

  private static void noEntry() {
    ShuffledViews x = made("net 4 2 2 7;cut 0 1;cut 0 2");
    String before = net(x);
    due("round", x.round(0), NONE);
    dueSame("behind it", net(x), before);
    due("it was done", x.told(10), 1);
    x = made("net 2 1 1 7;cut 0 1;cut 1 0");
    due("cycle", x.cycle(20), 0);
    due("the draws", x.told(8), 7);
  }

  private static void asked() {
    String net = "net 6 3 1 1;cut 0 1;cut 0 2;cut 0 3;";
    due("the greatest first", made(net + "link 0 5 9;link 0 1 8;link 0 3 8").round(0), 5);
    due("the greatest last", made(net + "link 0 1 8;link 0 3 8;link 0 5 9").round(0), 5);
    due("like ones, the least first", made(net + "link 0 1 9;link 0 3 9;link 0 5 9").round(0), 1);
    due("like ones, the least last", made(net + "link 0 5 9;link 0 3 9;link 0 1 9").round(0), 1);
    due("like ones, the least between", made(net + "link 0 5 9;link 0 1 9;link 0 3 9").round(0), 1);
    due("the least one is younger", made(net + "link 0 1 8;link 0 5 9;link 0 3 9").round(0), 3);
    due("node 0, too", made("net 6 3 1 1;cut 4 1;link 4 0 0").round(4), 0);
    due("97 and 99", made(net + "link 0 1 97;link 0 5 99").round(0), 5);
    due("98 and 99 are like ones then", made(net + "link 0 1 98;link 0 5 99").round(0), 1);
    due("the only one", made(net + "link 0 5 0").round(0), 5);
  }

  private static void struckOff() {
    String net = "net 6 3 1 1;dead 1;dead 2;dead 3;";
    for (int j = 1; j <= 3; j++) {
      ShuffledViews x = made(net + "link 0 " + j + " 50");
      due("round", x.round(0), j);
      dueView("without " + j, x, 0, j == 1 ? "2:1 3:1" : j == 2 ? "1:1 3:1" : "1:1 2:1");
    }
    ShuffledViews x = made("net 2 1 1 1;dead 1");
    due("round", x.round(0), 1);
    dueView("the only one", x, 0, "");
    due("round", x.round(0), NONE);
  }

  private static void askedIsDead() {
    ShuffledViews x = made("net 5 3 3 7;dead 1");
    due("round", x.round(0), 1);
    dueView("the asker", x, 0, "2:1 3:1");
    dueView("the dead one", x, 1, "2:0 3:0 4:0");
    due("the draws", x.told(8), 7);
    x = made("net 5 3 3 7;dead 1;sly 1");
    due("round", x.round(0), 1);
    dueView("the asker of a dead and sly one", x, 0, "2:1 3:1");
  }

  private static void howManyAreSent() {
    for (int slice = 1; slice <= 5; slice++) {
      String net = "net 8 5 " + slice + " 7";
      dueDraws("asker and asked", net, 2 * slice - 1);
      dueDraws("a sly asker", net + ";sly 0", slice);
      dueDraws("a sly one asked", net + ";sly 1", slice - 1);
      dueDraws("two sly ones", net + ";sly 0;sly 1", 0);
      dueDraws("a dead one asked", net + ";dead 1", 0);
    }
    // Fewer than SLICE are there: 0 has one yet, 1 has two.
    dueDraws("few", "net 3 5 5 7", 3);
    dueDraws("one", "net 2 5 5 7", 1);
    dueDraws("as many as SLICE with itself", "net 8 5 3 7;cut 0 5;cut 0 4;cut 1 6;cut 1 5", 5);
    dueDraws("one fewer", "net 8 5 3 7;cut 0 5;cut 0 4;cut 0 3;cut 1 6;cut 1 5;cut 1 4", 3);
  }

  /** How many draws the round of 0 makes, which asks 1. */
  private static void dueDraws(String what, String text, int draws) {
    ShuffledViews x = made(text);
    due(what + ", asked", x.round(0), 1);
    due(what + ", the draws of '" + text + "'", x.told(8), drawn(7, draws));
  }

  private static void slyAsker() {
    ShuffledViews x = made("net 6 3 3 1;sly 0;cut 1 2;cut 1 3;cut 1 4;link 1 5 8");
    due("round", x.round(0), 1);
    // 0 tells of itself alone, 1 of 5.
    dueView("the asked one", x, 1, "5:8 0:0");
    dueView("the sly asker", x, 0, "2:1 3:1 5:8");
    x = made("net 6 3 1 1;cut 1 4");
    due("round", x.round(0), 1);
    // By a SLICE of 1 an asker that is not sly tells of itself alone, too.
    dueView("a slice of 1", x, 1, "2:0 3:0 0:0");
  }

  private static void askedWithFew() {
    ShuffledViews x = made("net 6 4 3 1;cut 1 2;cut 1 3;cut 1 4;cut 1 5;cut 0 4");
    due("round", x.round(0), 1);
    // 1 has none: it sends nothing, not even itself.
    dueView("the asker", x, 0, "2:1 3:1");
    dueView("the asked one", x, 1, "0:0 2:1 3:1");
    x = made("net 6 4 3 1;cut 1 2;cut 1 3;cut 1 4;link 1 5 40");
    due("round", x.round(0), 1);
    dueView("one alone", x, 0, "2:1 3:1 4:1 5:40");
  }

  private static void slyAsked() {
    ShuffledViews x = made("net 6 4 3 1;sly 1;link 1 2 50");
    due("round", x.round(0), 1);
    dueView("the asker", x, 0, "2:1 3:1 4:1 1:0");
    dueView("the sly one", x, 1, "2:50 3:0 4:0 5:0");
    x = made("net 6 4 3 1;sly 1;cut 1 2;cut 1 3;cut 1 4;cut 1 5");
    due("round", x.round(0), 1);
    dueView("a sly one that has none", x, 0, "2:1 3:1 4:1 1:0");
  }

  private static void nothingTaken() {
    // Each has but the other: 1 sends 0, which 0 does not take; 0 is in the view of 1, of age 30.
    ShuffledViews x = made("net 2 1 1 1;link 1 0 30");
    due("round", x.round(0), 1);
    dueView("of itself", x, 0, "");
    dueView("of one that is in the view", x, 1, "0:30");
    x = made("net 3 2 2 1;link 1 2 30;link 1 0 40;link 0 2 50;link 0 1 60");
    due("round", x.round(0), 1);
    dueView("the asker", x, 0, "2:51");
    dueView("the asked one", x, 1, "2:30 0:40");
  }

  private static void roomToTake() {
    // 0 sends itself and 5, both by the room of 1; 1 sends 2, by the room that 1 itself left in the view of 0.
    ShuffledViews x = made("net 6 3 2 1;cut 0 2;cut 0 3;link 0 5 0;cut 1 3;cut 1 4");
    due("round", x.round(0), 1);
    dueView("the asked one", x, 1, "2:0 0:0 5:1");
    dueView("the asker", x, 0, "5:1 2:0");
    // A view of one: 0 has room for what 1 sends, 1 has none.
    x = made("net 3 1 1 1");
    due("round", x.round(0), 1);
    dueView("the asker", x, 0, "2:0");
    dueView("the asked one", x, 1, "0:0");
    // Room for one of two: the other comes in the place of what was sent.
    x = made("net 8 3 2 1;cut 0 2;cut 0 3;link 0 5 0;cut 1 4");
    due("round", x.round(0), 1);
    dueView("room for one", x, 1, "5:1 3:0 0:0");
  }

  private static void placeOfTheFirstSent() {
    ShuffledViews x = made("net 8 3 2 1;cut 0 2;cut 0 3;link 0 5 0;link 0 6 0");
    due("round", x.round(0), 1);
    // 0 sends 0 and 5 (74 by 2); 1 sends 4 and 2 (5624 by 3, 28652 by 2): 0 comes in place of 4, 5 of 2.
    dueView("the asked one", x, 1, "5:1 3:0 0:0");
    // 4 has room; 2 comes in place of 5: itself, which was sent ahead, is not counted.
    dueView("the asker", x, 0, "2:0 6:1 4:0");
    due("the draws", x.told(8), 57305);
  }

  private static void eachPlaceOnce() {
    // 0 sends 0 2 5, 1 sends 2 3 4 (224 by 2; 20421 by 3, 24298 by 2): 0 comes in place of 2, so that 2 comes in
    // place of 3, and 5 in place of 4, not of 2, which is in the view again.
    ShuffledViews x = made("net 6 3 3 5;cut 0 3;link 0 5 0");
    due("round", x.round(0), 1);
    dueView("the asked one", x, 1, "0:0 2:1 5:1");
    // 1 sends 3 4 2 in this order: 3 has room, 4 comes in place of 2, then 2 in place of 5.
    x = made("net 6 3 3 5;cut 0 3;link 0 5 0;cut 1 2;link 1 2 0");
    due("round", x.round(0), 1);
    dueView("the asked one", x, 1, "0:0 5:1 2:0");
    dueView("the asker", x, 0, "4:0 2:0 3:0");
    due("the draws", x.told(8), 40314);
  }

  private static void noPlaceLeft() {
    // A sly asker sent none of its view: 6 has room, 4 and 5 are not taken.
    ShuffledViews x = made("net 8 3 3 1;sly 0;cut 1 2;cut 1 3;link 1 5 0;link 1 6 0");
    due("round", x.round(0), 1);
    dueView("the sly asker", x, 0, "2:1 3:1 6:0");
    dueView("the asked one", x, 1, "4:0 5:0 0:0");
    due("the draws", x.told(8), 57305);
    // A sly one that was asked sent none of its view, either.
    x = made("net 8 3 3 1;sly 1;cut 0 2;cut 0 3;link 0 5 0;link 0 6 0");
    due("round", x.round(0), 1);
    dueView("a full sly one", x, 1, "2:0 3:0 4:0");
    x = made("net 8 3 3 1;sly 1;cut 0 2;cut 0 3;link 0 5 0;link 0 6 0;cut 1 3");
    due("round", x.round(0), 1);
    dueView("a sly one with room for one", x, 1, "2:0 4:0 0:0");
    x = made("net 8 1 1 1;sly 1");
    due("round", x.round(0), 1);
    dueView("a sly one with a view of one", x, 1, "2:0");
    dueView("its asker", x, 0, "1:0");
  }

  private static void cycleByNumber() {
    ShuffledViews x = made("net 6 3 2 321;dead 3;sly 2");
    ShuffledViews y = made("net 6 3 2 321;dead 3;sly 2");
    ShuffledViews backward = made("net 6 3 2 321;dead 3;sly 2");
    x.cycle(1);
    for (int i = 0; i < 6; i++) {
      due("round of " + i, y.round(i) == NOT ? 1 : 0, i == 3 ? 1 : 0);
      backward.round(5 - i);
    }
    dueSame("a cycle", net(x), net(y));
    due("by number, not otherwise", net(x).equals(net(backward)) ? 1 : 0, 0);
    x = made("net 3 1 1 1;dead 0;dead 1;dead 2");
    String before = net(x);
    due("none is alive", x.cycle(1), 3);
    dueSame("none is alive", net(x), before);
    x = made("net 8 1 1 1;dead 0;dead 1;dead 2;dead 3;dead 4;dead 5;dead 6");
    due("the last alone is alive", x.cycle(1), 7);
    dueView("the last", x, 7, "");
  }

  private static void known() {
    ShuffledViews x = made("net 8 1 1 1;link 1 0 0;link 2 0 0;link 3 0 0;link 4 0 0;link 5 0 0;link 6 0 0");
    due("by all others", x.node(0, 3), 7);
    due("by none", x.node(7, 3), 0);
    due("by one", x.node(1, 3), 1);
    x.die(0, 1);
    due("a dead one is known", x.node(0, 3), 7);
    due("but a dead one's view does not count", x.node(1, 3), 0);
    for (int i = 1; i < 8; i++) {
      x.die(i, 1);
      due("by fewer", x.node(0, 3), 7 - i);
    }
  }

  private static void ways() {
    String line = "net 5 1 1 1";
    due("a way", made(line).far(0, 1), 1);
    due("none back by one way", made(line + ";cut 4 0").far(1, 0), NONE);
    due("none through a dead one", made(line + ";dead 2").far(1, 3), NONE);
    due("none into it", made(line + ";dead 2;cut 4 0").told(7), 2);
    // 1 is known by dead ones alone, and knows dead ones alone.
    ShuffledViews x = made(line + ";dead 0;dead 2");
    due("parts", x.told(7), 2);
    due("the greatest known", x.told(5), 1);
    due("the least", x.told(6), 0);
  }

  private static void parts() {
    String cut = "net 8 1 1 1;cut 0 1;cut 1 2;cut 2 3;cut 3 4;cut 4 5;cut 5 6;cut 6 7;cut 7 0";
    due("eight", made(cut).told(7), 8);
    due("seven", made(cut + ";link 7 0 0").told(7), 7);
    due("either way", made(cut + ";link 0 1 0;link 2 1 0").told(7), 6);
    due("by third ones", made(cut + ";link 1 0 0;link 1 0 0;link 2 1 0;link 3 2 0").told(7), 5);
    due("against the numbers", made("net 8 1 1 1;cut 0 1").told(7), 1);
    // From 0 the part is found by 7, 3, 6, 2, 5, 1, 4 in turn.
    due("a long way about", made(cut + ";link 7 0 0;link 3 7 0;link 6 3 0;link 2 6 0;link 5 2 0;link 1 5 0;link 4 1 0").told(7), 1);
    due("a dead one between", made("net 8 1 1 1;dead 0;dead 4").told(7), 2);
    due("one alive", made("net 2 1 1 1;dead 0").told(7), 1);
    due("none alive", made("net 2 1 1 1;dead 0;dead 1").told(7), 0);
  }

  private static void foretoldChangesNothing() {
    int forgotten = busy().forgotten(3);
    dueUnchanged("forgotten", RoundEdgesTest::busy, x -> x.forgotten(3), forgotten);
    int next = busy().round(4);
    dueUnchanged("next", RoundEdgesTest::busy, x -> x.next(4), next);
    ShuffledViews far = busy();
    far.cycle(20);
    far.cycle(20);
    far.cycle(20);
    dueUnchanged("spread", RoundEdgesTest::busy, x -> x.spread(60), far.told(5) - far.told(6));
    int ways = busy().far(0, 4);
    dueUnchanged("far", RoundEdgesTest::busy, x -> x.far(0, 4), ways);
  }

  private static void sixtyCycles() {
    due("known by none now", made("net 2 1 1 1;dead 1;cut 0 1").forgotten(1), 0);
    due("known by a dead one", made("net 3 1 1 1;dead 1;dead 0").forgotten(1), 0);
    due("asked in the first", made("net 2 1 1 1;dead 1").forgotten(1), 1);
    // 0 asks one of the dead in each cycle, the least first.
    due("asked in the fifth", made("net 6 5 1 1;dead 1;dead 2;dead 3;dead 4;dead 5").forgotten(5), 5);
    // 0 and 1 hand 2 to and fro.
    due("never", made("net 3 1 1 1;dead 2").forgotten(2), NONE);
    // A search with the class itself found this text; so the 60 is held against 60 cycles below.
    ShuffledViews x = made("net 4 5 3 470;dead 0;link 2 3 81;cut 2 0;link 2 0 55");
    due("behind 61", x.forgotten(0), NONE);
    x.cycle(1);
    due("behind 60", x.forgotten(0), 60);
    x.cycle(1);
    due("behind 59", x.forgotten(0), 59);
    x.cycle(20);
    x.cycle(20);
    x.cycle(18);
    due("one before", x.node(0, 3) > 0 ? 1 : 0, 1);
    x.cycle(1);
    due("known by none", x.node(0, 3), 0);
  }

  private static void nextOrNone() {
    due("no entries", made("net 2 1 1 1;cut 0 1").next(0), NONE);
    due("one entry", made("net 2 1 1 1").next(0), 1);
    due("a dead one", made("net 2 1 1 1;dead 1").next(0), 1);
    due("node 0", made("net 2 1 1 1").next(1), 0);
    due("98 and 99 are like ones then", made("net 3 2 1 1;link 0 2 99;link 0 1 98").next(0), 1);
    due("97 and 99 are not", made("net 3 2 1 1;link 0 2 99;link 0 1 97").next(0), 2);
  }

  private static void spreadBehindSixty() {
    // Known: 0 by 1 and 2; 1 by none; 2 by 0 and 1. What is known of 3, which is dead, does not count.
    due("behind 0", made("net 4 3 1 1;cut 0 1;cut 2 1;dead 3").spread(0), 2);
    due("all alike", made("net 4 2 1 1").spread(0), 0);
    due("one alone is alive", made("net 2 1 1 1;dead 0").spread(60), 0);
    due("the most", made("net 8 1 1 1;link 1 0 0;link 2 0 0;link 3 0 0;link 4 0 0;link 5 0 0;link 6 0 0").spread(0), 7);
    String net = "net 8 4 2 77;sly 3;dead 1";
    due("behind 1", made(net).spread(1), behind(net, 1));
    due("behind 59", made(net).spread(59), behind(net, 59));
    due("behind 60", made(net).spread(60), behind(net, 60));
  }

  private static int behind(String net, int cycles) {
    ShuffledViews x = made(net);
    for (int k = 0; k < cycles; k++) {
      x.cycle(1);
    }
    return x.told(5) - x.told(6);
  }

  private static void fewestWays() {
    ShuffledViews x = made("net 8 1 1 1");
    for (int i = 0; i < 8; i++) {
      for (int j = 0; j < 8; j++) {
        due("from " + i + " to " + j, x.far(i, j), i == j ? UNKNOWN : i < j ? j - i : j + 8 - i);
      }
    }
    due("the shorter of two", made("net 8 2 1 1;link 0 5 0").far(0, 6), 2);
    due("none", made("net 8 1 1 1;cut 3 4").far(3, 4), NONE);
    due("none beyond", made("net 8 1 1 1;cut 3 4").far(0, 7), NONE);
    due("of two", made("net 2 1 1 1").far(1, 0), 1);
  }
}
