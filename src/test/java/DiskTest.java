/** PART 2 of the terms, sentence by sentence: the map, the directory, files, and what is taken and given back (promises 3 to 6). */
public final class DiskTest {
  private static final String LAST = Check.text(0, 255);

  public static void main(String[] args) {
    map();
    directory();
    names();
    files();
    taking();
    chains();
    Check.end();
  }

  private static void map() {
    Check.sentence("28 to 37 the disk's NAME, 38, 39 its ID; all others 0.", DiskTest::newMap);
    Check.sentence("0, 255 in the last", DiskTest::newDirectory);
    Check.sentence("+ 2 its TYPE (0 none; 1 S, 2 P, 3 U; 128 more if it is CLOSED), + 3, + 4 its first block, + 5 to + 14 its NAME, + 15 how many"
        + " blocks it has.", DiskTest::entry);
  }

  private static void directory() {
    Check.sentence("ENTRIES go by the chain, then by k", DiskTest::entriesByChain);
    Check.sentence("byte 0 is 0 in the last one whatever byte 1 is", DiskTest::lastWhateverByteOne);
    Check.sentence("a seventh block of the chain isn't looked at.", DiskTest::seventhBlock);
    Check.sentence("A next block that isn't LEGAL is 71 when it is wanted.", DiskTest::nextNotLegal);
  }

  private static void names() {
    Check.sentence("NAMES have at most ten bytes, and 160s behind them up to the tenth.", DiskTest::paddedNames);
    Check.sentence("FITS a NAME if byte by byte they are the same", DiskTest::sameBytes);
    Check.sentence("? stands for any byte but 160", DiskTest::anyByte);
    Check.sentence("* for all that is left (whatever stands behind it in the PATTERN)", DiskTest::allThatIsLeft);
    Check.sentence("where the PATTERN ends the NAME's next byte is 160 (or there is none).", DiskTest::patternsEnd);
  }

  private static void files() {
    Check.sentence("A FILE is a chain of blocks, 62 bytes in each from byte 2 on", DiskTest::sixtyTwo);
    Check.sentence("0 and the place of the last byte (0, 1: no byte; above 63: 63).", DiskTest::placeOfLastByte);
    Check.sentence("A block is LEGAL if there are such a track and sector (sector below S).", DiskTest::legal);
  }

  private static void taking() {
    Check.sentence("from the tracks 6 8 5 9 4 10 3 11 2 12 1 in this order", DiskTest::orderOfTracks);
    Check.sentence("the first one of which its byte tells that some are FREE and one of whose bits 0 to S - 1 is 1, the lowest such sector",
        DiskTest::firstTrackThatTells);
    Check.sentence("72 (0, 0) if there is none.", DiskTest::noneIsFree);
    Check.sentence("the first of sectors s + 3, s + 4, .. (round, S in all) whose bit is 1; else as above.", DiskTest::nextOne);
    Check.sentence("of t (if it is one of these eleven and its byte is not 0)", DiskTest::nextOneOfTrackThatTellsNone);
    Check.sentence("To take a DIRECTORY block likewise, from track 7 alone, the lowest one.", DiskTest::directoryBlock);
    Check.sentence("its bit becomes 0, the track's byte is 1 less (bytes go round 256).", DiskTest::taken);
    Check.sentence("That is GIVEN BACK if it's LEGAL and its bit is 0: it becomes 1, the track's byte 1 more.", DiskTest::givenBack);
  }

  private static void chains() {
    Check.sentence("71 if it isn't LEGAL or it would be the 73rd", DiskTest::chainOf73);
    Check.sentence("it is GIVEN BACK; it is READ; its bytes 0, 1 are the next one; till byte 0 is 0.", DiskTest::chainEnds);
    Check.sentence("Then the MAP is stored, also behind a fault of these", DiskTest::storedBehindFault);
    Check.sentence("(which goes ahead of one of storing; not if the MAP couldn't be loaded).", DiskTest::faultAheadOfStoring);
    Check.sentence("An ENTRY is CHANGED: its block is READ, changed, written.", DiskTest::changed);
    Check.sentence("66 and 71 tell the track and sector of that block.", DiskTest::tellsBlock);
    Check.sentence("it ends what is done; what was done ahead of it stays.", DiskTest::whatWasDoneStays);
  }

  /** The two bytes of a track in the map. */
  private static String mapOf(Check check, int track) {
    return check.block(7, 0, 2 + 2 * track, 2);
  }

  /** The first block of an entry of 7, 1. */
  private static String first(Check check, int entry) {
    return check.block(7, 1, 16 * entry + 3, 2);
  }

  // ---- the map and entries ----

  private static void newMap() {
    StringBuilder want = new StringBuilder(Check.text(7, 1, 68, 0));
    for (int t = 1; t <= 12; t++) {
      int sectors = Bits.sectorsOf(t);
      want.append(t == 7 ? Check.text(4, 60) : Check.text(sectors, (1 << sectors) - 1));
    }
    want.append(Check.padded("DISK")).append("AB").append("\0".repeat(24));
    Check check = Check.formatted();
    Check.due("map", want.toString(), check.block(7, 0));
    check.poke(7, 0, 3, 99);
    check.poke(7, 0, 40, 1, 2, 3);
    check.poke(7, 0, 62, 4, 5);
    check.command("I"); // so it has been loaded
    check.command("N:DISK");
    Check.due("map made anew", want.toString(), check.block(7, 0));
    check.command("N:ABCDEFGHIJ");
    Check.due("a name of ten", "ABCDEFGHIJAB", check.block(7, 0, 28, 12));
    check.command("N:" + Check.text(0, 255) + "," + Check.text(0, 255));
    Check.due("any bytes", Check.padded(Check.text(0, 255)) + Check.text(0, 255), check.block(7, 0, 28, 12));
    Check.due("ID", 0, check.drive.look(5));
    Check.due("ID", 255, check.drive.look(6));
  }

  private static void newDirectory() {
    Check check = Check.formatted();
    Check.due("directory", LAST + "\0".repeat(62), check.block(7, 1));
    check.file("A", "1");
    check.command("N:B");
    Check.due("directory made anew", LAST + "\0".repeat(62), check.block(7, 1));
  }

  private static void entry() {
    Check check = Check.formatted();
    check.open(2, "A,S,W");
    check.open(3, "BB,P,W");
    check.open(4, "ABCDEFGHIJ,U,W");
    String open = LAST + Check.text(1, 6, 0) + Check.padded("A") + Check.text(0, 0, 0, 2, 6, 1) + Check.padded("BB") + Check.text(0, 0, 0, 3, 6, 2)
        + "ABCDEFGHIJ" + Check.text(0) + "\0".repeat(16);
    Check.due("not closed", open, check.block(7, 1));
    check.write(3, Check.many(63));
    check.drive.close(15);
    String closed = LAST + Check.text(129, 6, 0) + Check.padded("A") + Check.text(1, 0, 0, 130, 6, 1) + Check.padded("BB") + Check.text(2, 0, 0, 131, 6, 2)
        + "ABCDEFGHIJ" + Check.text(1) + "\0".repeat(16);
    Check.due("closed", closed, check.block(7, 1));
  }

  // ---- the directory ----

  private static void entriesByChain() {
    Check check = Check.formatted();
    for (int i = 0; i < 5; i++) {
      check.file("F" + i, "");
    }
    Check.due("next one", Check.text(7, 2), check.block(7, 1, 0, 2));
    Check.due("list", "1 \"F0\" S\r1 \"F1\" S\r1 \"F2\" S\r1 \"F3\" S\r1 \"F4\" S\r67 FREE\r", check.entries());
    check.poke(7, 1, 0, 7, 5);
    check.setBlock(7, 5, Check.text(7, 2, 129, 1, 0) + Check.padded("X") + Check.text(9));
    Check.due("one between them", "1 \"F0\" S\r1 \"F1\" S\r1 \"F2\" S\r1 \"F3\" S\r9 \"X\" S\r1 \"F4\" S\r67 FREE\r", check.entries());
    // Of two that fit the first one is taken.
    check.setBlock(12, 4, Check.text(0, 2, 'Z'));
    check.poke(7, 5, 3, 12, 4);
    check.poke(7, 2, 5, 'X');
    check.open(3, "X*");
    Check.due("the first one", "Z", check.read(3, 9));
  }

  private static void lastWhateverByteOne() {
    for (int one : new int[] {0, 1, 2, 254, 255}) {
      Check check = Check.formatted();
      check.file("A", "1");
      check.poke(7, 1, 0, 0, one);
      check.setBlock(7, 2, LAST + Check.text(129, 6, 0) + Check.padded("B"));
      Check.due("byte 1 is " + one, "62 0 0", check.afterOpen(2, "B"));
      Check.due("list", "1 \"A\" S\r71 FREE\r", check.entries());
      Check.due("V", "0 0 0", check.after("V"));
    }
  }

  /** A directory of six blocks, the last one of which names a seventh that has an entry. */
  private static Check sixBlocks(int next, int nextSector) {
    Check check = Check.formatted();
    check.poke(7, 1, 0, 12, 0);
    for (int i = 0; i < 4; i++) {
      check.setBlock(12, i, Check.text(12, i + 1));
    }
    check.setBlock(12, 4, Check.text(next, nextSector, 129, 1, 0) + Check.padded("SIXTH"));
    check.setBlock(11, 0, LAST + Check.text(129, 1, 1) + Check.padded("SEVENTH"));
    return check;
  }

  private static void seventhBlock() {
    Check check = sixBlocks(11, 0);
    Check.due("of the sixth", "0 0 0", check.afterOpen(2, "SIXTH"));
    Check.due("of the seventh", "62 0 0", check.afterOpen(2, "SEVENTH"));
    Check.due("list", "0 \"SIXTH\" S\r72 FREE\r", check.entries());
    Check.due("S", "1 0 0", check.after("S:SEVENTH"));
    Check.due("R", "62 0 0", check.after("R:X=SEVENTH"));
    Check.due("R", "0 0 0", check.after("R:SEVENTH=SIXTH"));
    Check.due("V", "0 0 0", check.after("V"));
    Check.due("V leaves it FREE", Check.text(5, 31), mapOf(check, 11));
    check = sixBlocks(99, 0);
    Check.due("one that isn't legal", "62 0 0", check.afterOpen(2, "SEVENTH"));
    Check.due("V", "0 0 0", check.after("V"));
    Check.due("S", "1 0 0", check.after("S:X"));
  }

  private static void nextNotLegal() {
    Check check = Check.formatted();
    check.file("A", "1");
    check.poke(7, 1, 0, 7, 6);
    Check.due("not wanted: found ahead of it", "0 0 0", check.afterOpen(2, "A"));
    Check.due("R of OPEN", "71 7 6", check.afterOpen(2, "B"));
    Check.due("W of OPEN", "71 7 6", check.afterOpen(2, "B,W"));
    Check.due("W of OPEN finds the NAME ahead of it", "63 0 0", check.afterOpen(2, "A,W"));
    Check.due("S", "71 7 6", check.after("S:B"));
    Check.due("R: NEW", "71 7 6", check.after("R:B=A"));
    Check.due("V", "71 7 6", check.after("V"));
    check.open(2, "$");
    Check.due("a LIST has lines ahead of it", "\"DISK      \" AB\r1 \"A\" S\r", check.read(2, 300));
    Check.due("and then", "71 7 6", check.status());
    check.poke(7, 1, 0, 13, 0);
    Check.due("no such track", "71 13 0", check.afterOpen(2, "B"));
    check.poke(7, 1, 0, 12, 5);
    Check.due("no such sector", "71 12 5", check.afterOpen(2, "B"));
    check.poke(7, 1, 0, 12, 4);
    Check.due("legal", "62 0 0", check.afterOpen(2, "B"));
  }

  // ---- names ----

  private static void paddedNames() {
    Check check = Check.formatted();
    check.file("A", "");
    check.file("ABCDEFGHI", "");
    check.file("ABCDEFGHIJ", "");
    Check.due("of one", Check.padded("A"), check.block(7, 1, 5, 10));
    Check.due("of nine", "ABCDEFGHI\u00A0", check.block(7, 1, 21, 10));
    Check.due("of ten", "ABCDEFGHIJ", check.block(7, 1, 37, 10));
    check.command("R:B=ABCDEFGHIJ");
    Check.due("a shorter one in its place", Check.padded("B"), check.block(7, 1, 37, 10));
    Check.due("eleven", "30 0 0", check.afterOpen(2, "ABCDEFGHIJK,W"));
  }

  /** Which of the files A, AB, ABCDEFGHIJ (with the bytes 1, 2, 3) a pattern brings. */
  private static void brings(String... rows) {
    Check check = Check.formatted();
    check.file("A", "1");
    check.file("AB", "2");
    check.file("ABCDEFGHIJ", "3");
    for (String row : rows) {
      String pattern = row.substring(0, row.indexOf('='));
      String want = row.substring(row.indexOf('=') + 1);
      Check.due(pattern, want.isEmpty() ? 62 : 0, check.open(2, pattern));
      Check.due(pattern, want, check.read(2, 300));
    }
  }

  private static void sameBytes() {
    brings("A=1", "AB=2", "ABCDEFGHIJ=3", "B=", "a=", "AC=", "BB=", "ABCDEFGHIK=", "BBCDEFGHIJ=", "A\u00A0=1", "AB\u00A0\u00A0=2", "A\u00A0B=");
    // Of a name on the disk * and ? are just bytes.
    Check check = Check.formatted();
    check.file("A", "1");
    check.poke(7, 1, 5, '*');
    Check.due("* in the NAME", 62, check.open(2, "Z"));
    check.poke(7, 1, 5, '?');
    Check.due("? in the NAME", 62, check.open(2, "Z"));
    Check.due("? of both", 0, check.open(2, "?"));
  }

  private static void anyByte() {
    brings("?=1", "??=2", "???=", "A?=2", "?B=2", "??????????=3", "ABCDEFGHI?=3", "?BCDEFGHIJ=3", "A??=");
    Check check = Check.formatted();
    check.file("A\u00A0C", "1");
    Check.due("not 160", 62, check.open(2, "A?C"));
    Check.due("160 itself", 0, check.open(2, "A\u00A0C"));
    check.poke(7, 1, 6, 0);
    Check.due("0", 0, check.open(2, "A?C"));
    check.poke(7, 1, 6, 255);
    Check.due("255", 0, check.open(2, "A?C"));
    check.poke(7, 1, 6, 161);
    Check.due("161", 0, check.open(2, "A?C"));
  }

  private static void allThatIsLeft() {
    brings("*=1", "A*=1", "AB*=2", "ABC*=3", "A*X=1", "*X=1", "A?*=2", "A??*=3", "B*=", "ABCDEFGHI*=3", "A**=1", "A*?=1", "ABCDEFGHX*=", "A\u00A0*=1");
  }

  private static void patternsEnd() {
    brings("A=1", "AB=2", "ABC=", "ABCDEFGHI=", "ABCDEFGHIJ=3", "?????????=");
    Check check = Check.formatted();
    check.file("A\u00A0B", "1");
    Check.due("the next byte is 160, whatever is behind it", 0, check.open(2, "A"));
  }

  // ---- files ----

  private static void sixtyTwo() {
    Check check = Check.formatted();
    check.file("A", Check.many(125));
    Check.due("first", Check.text(6, 3) + Check.many(62), check.block(6, 0));
    Check.due("second", Check.text(6, 6) + Check.many(124).substring(62), check.block(6, 3));
    Check.due("third", Check.text(0, 2) + Check.many(125).substring(124) + "\0".repeat(61), check.block(6, 6));
    Check.due("free", Check.text(4, 127 - 1 - 8 - 64), mapOf(check, 6));
    check.file("B", Check.many(62));
    Check.due("just one block", Check.text(0, 63) + Check.many(62), check.block(6, 1));
    check.file("C", Check.many(61));
    Check.due("not quite one", Check.text(0, 62) + Check.many(61) + "\0", check.block(6, 2));
    check.file("D", "");
    Check.due("none", Check.text(0, 1) + "\0".repeat(62), check.block(6, 4));
  }

  private static void placeOfLastByte() {
    Check check = Check.formatted();
    check.file("A", Check.many(62));
    int[][] rows = {{0, 0}, {1, 0}, {2, 1}, {3, 2}, {62, 61}, {63, 62}, {64, 62}, {65, 62}, {255, 62}};
    for (int[] row : rows) {
      check.poke(6, 0, 1, row[0]);
      check.open(2, "A");
      Check.due("place " + row[0], row[1], check.drive.read(2, 300));
      Check.due("END", row[1] > 0, check.drive.look(3) == 1);
      Check.due("behind it", 0, check.drive.read(2, 300));
      Check.due("status", 0, check.drive.look(0));
    }
  }

  private static void legal() {
    Check check = Check.formatted();
    check.file("A", "1");
    int[][] not = {{0, 0}, {13, 0}, {255, 0}, {1, 8}, {3, 8}, {4, 7}, {6, 7}, {7, 6}, {9, 6}, {10, 5}, {12, 5}, {12, 255}};
    for (int[] one : not) {
      check.poke(7, 1, 3, one);
      Check.due(one[0] + ", " + one[1], "66 " + one[0] + " " + one[1], check.afterOpen(2, "A"));
    }
    check = Check.formatted();
    check.file("A", "1");
    int[][] are = {{1, 0}, {1, 7}, {3, 7}, {4, 6}, {6, 6}, {7, 5}, {9, 5}, {10, 4}, {12, 4}};
    for (int[] one : are) {
      check.poke(7, 1, 3, one);
      Check.due(one[0] + ", " + one[1], "0 0 0", check.afterOpen(2, "A"));
    }
  }

  // ---- taking and giving back ----

  private static void orderOfTracks() {
    int[] order = {6, 8, 5, 9, 4, 10, 3, 11, 2, 12, 1};
    for (int from = 0; from < order.length; from++) {
      Check check = Check.formatted();
      int[] free = new int[2 * (order.length - from)];
      for (int i = from; i < order.length; i++) {
        free[2 * (i - from)] = order[i];
      }
      check.leaveFree(free);
      check.open(2, "A,W");
      Check.due("the first of those that are left", Check.text(order[from], 0), first(check, 0));
      Check.due("its map", Check.text(0, 0), mapOf(check, order[from]));
      check.write(2, Check.many(63));
      int next = from + 1 < order.length ? order[from + 1] : 0;
      Check.due("the next one", next == 0 ? Check.text(0, 0) : Check.text(next, 0), check.block(order[from], 0, 0, 2));
    }
    Check check = Check.formatted();
    check.leaveFree(7, 2, 7, 3);
    Check.due("none of track 7", "72 0 0", check.afterOpen(2, "A,W"));
  }

  private static void firstTrackThatTells() {
    Check check = Check.formatted();
    check.leaveFree(6, 5, 6, 2, 8, 1);
    check.open(2, "A,W");
    Check.due("the lowest", Check.text(6, 2), first(check, 0));
    check.poke(7, 0, 14, 0);
    check.open(3, "B,W");
    Check.due("its byte tells that none is", Check.text(8, 1), first(check, 1));
    check = Check.formatted();
    check.leaveFree(8, 5);
    check.poke(7, 0, 14, 9, 0);
    check.open(2, "A,W");
    Check.due("its byte tells some, but no bit does", Check.text(8, 5), first(check, 0));
    for (int track = 1; track <= 12; track++) {
      if (track != 7) {
        int sectors = Bits.sectorsOf(track);
        check = Check.formatted();
        check.leaveFree();
        check.poke(7, 0, 2 + 2 * track, 1, 256 - (1 << sectors) & 255);
        Check.due("bits of sectors that there are not", "72 0 0", check.afterOpen(2, "A,W"));
        check.poke(7, 0, 2 + 2 * track, 1, 256 - (1 << sectors - 1) & 255);
        Check.due("bit S - 1", "0 0 0", check.afterOpen(2, "A,W"));
        Check.due("bit S - 1", Check.text(track, sectors - 1), first(check, 0));
      }
    }
  }

  private static void noneIsFree() {
    Check check = Check.formatted();
    check.leaveFree();
    Check.due("at OPEN", "72 0 0", check.afterOpen(2, "A,W"));
    Check.due("not open", 0, check.drive.look(7));
    Check.due("no entry", "0 FREE\r", check.entries());
    check.leaveFree(3, 3);
    check.open(2, "A,W");
    check.write(2, Check.many(62));
    Check.due("at WRITE", "72 0 0", check.afterWrite(2, "X"));
  }

  /** The block that a file's second block becomes when the first one is 6, s and these are free. */
  private static String second(int... free) {
    Check check = Check.formatted();
    check.leaveFree(free);
    check.open(2, "A,W");
    Check.due("first block", Check.text(free[0], free[1]), first(check, 0));
    check.write(2, Check.many(63));
    String got = check.block(free[0], free[1], 0, 2);
    return (int) got.charAt(0) + "." + (int) got.charAt(1);
  }

  private static void nextOne() {
    Check.due("s + 3", "6.3", second(6, 0, 6, 1, 6, 2, 6, 3, 6, 4, 6, 5, 6, 6));
    Check.due("s + 4", "6.4", second(6, 0, 6, 1, 6, 2, 6, 4, 6, 5, 6, 6));
    Check.due("round", "6.1", second(6, 0, 6, 1, 6, 2));
    Check.due("the last of S", "6.2", second(6, 0, 6, 2));
    Check.due("s + 2 comes last", "6.6", second(6, 3, 6, 5, 6, 6));
    Check.due("round of 5 sectors", "10.4", second(10, 1, 10, 3, 10, 4));
    Check.due("round of 5 sectors", "10.2", second(10, 1, 10, 2, 10, 3));
    Check.due("round of 8 sectors", "3.7", second(3, 4, 3, 5, 3, 6, 3, 7));
    Check.due("round of 8 sectors", "3.5", second(3, 4, 3, 5, 3, 6));
    Check.due("else as above", "8.2", second(6, 0, 8, 2, 5, 0));
    Check.due("else as above, from the first track on", "3.4", second(3, 1, 3, 4, 11, 1));
    // The latest block's track comes first, though another one is ahead of it in the order.
    Check check = Check.formatted();
    check.leaveFree(3, 1, 3, 2);
    check.open(2, "A,W");
    check.command("B-F:6,0");
    check.write(2, Check.many(63));
    Check.due("the same track", Check.text(3, 2), check.block(3, 1, 0, 2));
    // The latest block's track, not the first one's.
    check = Check.formatted();
    check.leaveFree(6, 0, 8, 0, 8, 1, 8, 3);
    check.open(2, "A,W");
    check.write(2, Check.many(125));
    Check.due("another track", Check.text(8, 0), check.block(6, 0, 0, 2));
    Check.due("that track", Check.text(8, 3), check.block(8, 0, 0, 2));
  }

  private static void nextOneOfTrackThatTellsNone() {
    Check check = Check.formatted();
    check.leaveFree(6, 0, 6, 3, 8, 2);
    check.open(2, "A,W");
    check.poke(7, 0, 14, 0);
    check.write(2, Check.many(63));
    Check.due("another track", Check.text(8, 2), check.block(6, 0, 0, 2));
    Check.due("track 6 as it was", Check.text(0, 8), mapOf(check, 6));
  }

  /** A disk whose directory's first block has four entries of TYPE 129. */
  private static Check fourEntries() {
    Check check = Check.formatted();
    for (int entry = 0; entry < 4; entry++) {
      check.poke(7, 1, 16 * entry + 2, 129);
    }
    return check;
  }

  private static void directoryBlock() {
    Check check = fourEntries();
    check.leaveFree(6, 0, 7, 5, 7, 3);
    Check.due("OPEN", "0 0 0", check.afterOpen(2, "A,W"));
    Check.due("the lowest one of track 7", Check.text(7, 3), check.block(7, 1, 0, 2));
    Check.due("map", Check.text(1, 32), mapOf(check, 7));
    check = fourEntries();
    check.leaveFree(6, 0, 7, 5);
    Check.due("OPEN", "0 0 0", check.afterOpen(2, "A,W"));
    Check.due("the last one of track 7", Check.text(7, 5), check.block(7, 1, 0, 2));
    // 7, 0 is the lowest one if the MAP has it FREE: the MAP is written over by it, so no block is left.
    check = fourEntries();
    check.command("B-F:7,0");
    Check.due("OPEN", "72 0 0", check.afterOpen(2, "A,W"));
    Check.due("7, 0", Check.text(7, 0), check.block(7, 1, 0, 2));
    Check.due("7, 0", LAST + "\0".repeat(62), check.block(7, 0));
    for (int[] bytes : new int[][] {{0, 60}, {4, 0}, {4, 192}}) {
      check = fourEntries();
      check.poke(7, 0, 16, bytes);
      Check.due("no block of track 7", "72 0 0", check.afterOpen(2, "A,W"));
      Check.due("nothing was taken", Check.text(bytes), mapOf(check, 7));
      Check.due("nothing was taken", Check.text(7, 127), mapOf(check, 6));
    }
  }

  private static void taken() {
    Check check = Check.formatted();
    check.open(2, "A,W");
    Check.due("by OPEN", Check.text(6, 126), mapOf(check, 6));
    check.write(2, Check.many(63));
    Check.due("by WRITE", Check.text(5, 118), mapOf(check, 6));
    check.command("B-A:6,1");
    Check.due("by B-A", Check.text(4, 116), mapOf(check, 6));
    check.poke(7, 0, 14, 0);
    Check.due("B-A", "0 0 0", check.after("B-A:6,2"));
    Check.due("0 becomes 255", Check.text(255, 112), mapOf(check, 6));
  }

  private static void givenBack() {
    Check check = Check.formatted();
    check.command("B-A:6,2");
    check.command("B-F:6,2");
    Check.due("by B-F", Check.text(7, 127), mapOf(check, 6));
    check.command("B-F:6,2");
    Check.due("one that is FREE", Check.text(7, 127), mapOf(check, 6));
    check.command("B-F:7,0");
    Check.due("of track 7, too", Check.text(5, 61), mapOf(check, 7));
    check.command("B-A:6,3");
    check.poke(7, 0, 14, 255);
    check.command("B-F:6,3");
    Check.due("255 becomes 0", Check.text(0, 127), mapOf(check, 6));
    check = Check.formatted();
    check.file("A", Check.many(63));
    check.command("B-F:6,0");
    Check.due("S", "1 1 0", check.after("S:A"));
    Check.due("one of its blocks was FREE", Check.text(7, 127), mapOf(check, 6));
  }

  // ---- chains ----

  /** A file of all 72 blocks outside track 7; tells where its last block is. */
  private static Check wholeDisk() {
    Check check = Check.formatted();
    check.file("A", Check.many(72 * 62));
    Check.due("track 1 is full", Check.text(0, 0), mapOf(check, 1));
    return check;
  }

  private static int lastSectorOfTrackOne(Check check) {
    for (int sector = 0; sector < 8; sector++) {
      if (check.block(1, sector, 0, 1).charAt(0) == 0) {
        return sector;
      }
    }
    return -1;
  }

  private static void chainOf73() {
    Check check = wholeDisk();
    Check.due("72 blocks", "1 1 0", check.after("S:A"));
    Check.due("all are FREE", "72 FREE\r", check.entries());
    check = wholeDisk();
    int last = lastSectorOfTrackOne(check);
    check.poke(1, last, 0, 7, 5);
    Check.due("73 blocks", "71 7 5", check.after("S:A"));
    Check.due("the entry stays", "72 \"A\" S\r72 FREE\r", check.entries());
    Check.due("the 73rd was not GIVEN BACK", Check.text(4, 60), mapOf(check, 7));
    check = Check.formatted();
    check.file("A", Check.many(100));
    check.poke(6, 3, 0, 6, 3);
    Check.due("a chain that goes round", "71 6 3", check.after("S:A"));
    check.poke(6, 3, 0, 6, 7);
    Check.due("not legal", "71 6 7", check.after("S:A"));
    check.poke(7, 1, 3, 99, 98);
    Check.due("the first one isn't legal", "71 99 98", check.after("S:A"));
  }

  private static void chainEnds() {
    Check check = Check.formatted();
    check.file("A", Check.many(130));
    check.poke(6, 3, 0, 0, 6);
    Check.due("S", "1 1 0", check.after("S:A"));
    Check.due("up to the block whose byte 0 is 0", Check.text(6, 127 - 64), mapOf(check, 6));
    check = Check.formatted();
    check.file("A", Check.many(130));
    check.spoil(6, 3);
    Check.due("one can't be READ", "20 6 3", check.after("S:A"));
    Check.due("it was GIVEN BACK ahead of that", Check.text(6, 127 - 64), mapOf(check, 6));
  }

  private static void storedBehindFault() {
    Check check = Check.formatted();
    check.file("A", Check.many(200));
    check.poke(6, 3, 0, 32, 33);
    Check.due("71", "71 32 33", check.after("S:A"));
    Check.due("two were GIVEN BACK, the entry stays", "4 \"A\" S\r70 FREE\r", check.entries());
    check = Check.formatted();
    check.file("A", Check.many(200));
    check.spoilSum(6, 0);
    Check.due("@, too", "23 6 0", check.afterOpen(2, "@A,W"));
    Check.due("one was GIVEN BACK, the entry stays", "4 \"A\" S\r69 FREE\r", check.entries());
    Check.due("not open", 0, check.drive.look(7));
  }

  private static void faultAheadOfStoring() {
    Check check = Check.formatted();
    check.file("A", Check.many(63));
    check.drive.protect(true);
    Check.due("one of storing alone", "26 7 0", check.after("S:A"));
    check.poke(6, 3, 0, 99, 0);
    Check.due("71 goes ahead of 26", "71 99 0", check.after("S:A"));
    check.drive.protect(false);
    check.spoilSum(7, 0);
    Check.due("the MAP couldn't be loaded", "23 7 0", check.after("S:A"));
    check.spoilSum(7, 0);
    Check.due("so it was not stored", Check.text(5, 127 - 9), mapOf(check, 6));
    Check.due("the entry stays", 129, check.block(7, 1, 2, 1).charAt(0));
  }

  private static void changed() {
    Check check = Check.formatted();
    check.file("A", "1");
    check.drive.protect(true);
    Check.due("not written", "26 7 1", check.after("R:B=A"));
    check.drive.protect(false);
    check.open(2, "C,W");
    check.spoil(7, 1);
    Check.due("not READ", "20 7 1", check.afterClose(2));
    Check.due("the block itself was written", Check.text(0, 1), check.block(6, 1, 0, 2));
    check.spoil(7, 1);
    check.spoilWriting(7, 1);
    Check.due("READ, but not written", "25 7 1", check.after("R:B=A"));
    // READ anew: what another one has changed meanwhile stays.
    check = Check.formatted();
    check.open(2, "A,W");
    check.poke(7, 1, 48, 1, 2, 3);
    check.drive.close(2);
    Check.due("other bytes stay", Check.text(1, 2, 3), check.block(7, 1, 48, 3));
    Check.due("closed", 129, check.block(7, 1, 2, 1).charAt(0));
    // It can't be READ, but could be written.
    check = Check.formatted();
    check.open(2, "A,W");
    check.spoilSum(7, 1);
    Check.due("not READ", "23 7 1", check.afterClose(2));
    check.spoilSum(7, 1);
    Check.due("nor written", 1, check.block(7, 1, 2, 1).charAt(0));
    // To store the MAP spoils the header of 7, 1: so the ENTRY isn't READ again.
    check = tightTrack();
    Check.due("W", "20 7 1", check.afterOpen(2, "B,W"));
    Check.due("not open", 0, check.drive.look(7));
    check = tightTrack();
    Check.due("S", "20 7 1", check.after("S:A"));
  }

  /** A disk with a file A, on whose track 7 the header of 7, 1 lies where the DATA of 7, 0 will be written. */
  private static Check tightTrack() {
    Check check = Check.formatted();
    check.file("A", "1");
    String map = Bits.at(check.drive, 7, Bits.dataAt(0), 680);
    String directory = Bits.at(check.drive, 7, Bits.dataAt(1), 680);
    Bits.make(check.drive, 7, Bits.headerAt(0) + 80, Bits.zeros(72) + Bits.ones(10) + map + Bits.ones(10) + Bits.header(7, 1, 'A', 'B') + Bits.zeros(72)
        + Bits.ones(10) + directory);
    Check.due("both can be READ", "1 \"A\" S\r71 FREE\r", check.entries());
    return check;
  }

  private static void tellsBlock() {
    Check check = Check.formatted();
    check.file("A", Check.many(63));
    check.poke(6, 0, 0, 200, 100);
    check.open(2, "A");
    Check.due("71 of READ", "71 200 100", check.afterRead(2, 300));
    Check.due("71 of S", "71 200 100", check.after("S:A"));
    Check.due("71 of V", "71 200 100", check.after("V"));
    check.poke(7, 1, 3, 201, 101);
    Check.due("66 of OPEN", "66 201 101", check.afterOpen(2, "A"));
    Check.due("66 of B-A", "66 202 102", check.after("B-A:202,102"));
    Check.due("66 of B-F", "66 203 103", check.after("B-F:203,103"));
    check.open(2, "#");
    Check.due("66 of U1", "66 204 104", check.after("U1:2,204,104"));
    Check.due("66 of U2", "66 205 105", check.after("U2:2,205,105"));
  }

  private static void whatWasDoneStays() {
    // W: the MAP is stored, then the ENTRY can't be written: the block stays taken.
    Check check = Check.formatted();
    check.spoilWriting(7, 1);
    Check.due("W", "25 7 1", check.afterOpen(2, "A,W"));
    Check.due("the block is taken", Check.text(6, 126), mapOf(check, 6));
    Check.due("not open", 0, check.drive.look(7));
    // W with a new DIRECTORY block that can't be written: it is taken, but no part of the chain.
    check = fourEntries();
    check.spoil(7, 2);
    Check.due("W", "20 7 2", check.afterOpen(2, "A,W"));
    Check.due("it is taken", Check.text(3, 56), mapOf(check, 7));
    Check.due("no part of the chain", LAST, check.block(7, 1, 0, 2));
    Check.due("no block is taken for the FILE", Check.text(7, 127), mapOf(check, 6));
    // S of two: the first one is gone when the second one has a fault.
    check = Check.formatted();
    check.file("A", "1");
    check.file("B", "2");
    check.spoil(6, 1);
    Check.due("S", "20 6 1", check.after("S:*"));
    Check.due("A is gone", "1 \"B\" S\r72 FREE\r", check.entries());
  }
}
