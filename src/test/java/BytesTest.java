/** READ, WRITE and CLOSE, sentence by sentence (promises 4, 5, 6): bytes of files, lists and buffers. */
public final class BytesTest {
  public static void main(String[] args) {
    reading();
    writing();
    fullDisks();
    closing();
    Check.end();
  }

  private static void reading() {
    Check.sentence("READ up to n bytes of c: 61: it is closed or WRITES (no byte comes).", BytesTest::notToBeRead);
    Check.sentence("Of a FILE, byte by byte; the last one of its last block is the END", BytesTest::sizes);
    Check.sentence("behind a block's last byte the next block is READ (71: not LEGAL) when a byte is wanted", BytesTest::nextBlock);
    Check.sentence("a fault closes the channel. Of a FILE's END", BytesTest::readingFault);
    Check.sentence("Of a FILE's END nothing comes behind it (also if its last block has no byte).", BytesTest::behindTheEnd);
    Check.sentence("Of LIST: the END is its last byte.", BytesTest::endOfList);
    Check.sentence("Of a BUFFER: from its place on up to byte 63, which is the END; then its place is 0.", BytesTest::endOfBuffer);
  }

  private static void writing() {
    Check.sentence("WRITE bytes to c: 61: it is closed, READS or LISTS.", BytesTest::notToBeWritten);
    Check.sentence("To a BUFFER: at its place, which goes on by one, behind 63 to 0.", BytesTest::toBuffer);
    Check.sentence("To a FILE: into its block (which begins with zeros)", BytesTest::beginsWithZeros);
    Check.sentence("where that has 62 and one more comes: a next block is taken (the MAP loaded ahead, stored behind), the full one is written"
        + " with it as next one.", BytesTest::oneMoreComes);
    Check.sentence("Another fault closes it alone.", BytesTest::anotherFault);
    Check.sentence("Bytes behind a fault are lost.", BytesTest::lost);
  }

  private static void fullDisks() {
    Check.sentence("With 72 there: the FILE's blocks but the latest one, by their chain from the first one on, are READ and GIVEN BACK", BytesTest::full);
    Check.sentence("(71: not LEGAL, or the 73rd), so is the latest one", BytesTest::fullChain);
    Check.sentence("the MAP (loaded ahead) is stored, the ENTRY CHANGED to TYPE 0, the channel closed", BytesTest::fullEntry);
    Check.sentence("(a fault of these ends them, and is told in place of 72).", BytesTest::fullFaults);
  }

  private static void closing() {
    Check.sentence("its last block is written (0, the last byte's place), then the ENTRY CHANGED: CLOSED, how many blocks.", BytesTest::lastBlock);
    Check.sentence("The channel is closed (also with a fault).", BytesTest::closingFault);
    Check.sentence("Others are closed", BytesTest::others);
    Check.sentence("of 15: all, from 0 on (behind a fault they are closed without more).", BytesTest::closeOf15);
  }

  // ---- reading ----

  private static void notToBeRead() {
    Check check = Check.formatted();
    Check.due("closed", 0, check.drive.read(2, 300));
    Check.due("61", "61 0 0", check.status());
    check.open(2, "A,W");
    check.write(2, "XYZ");
    Check.due("one that writes", 0, check.drive.read(2, 300));
    Check.due("61", "61 0 0", check.status());
    Check.due("no END", 0, check.drive.look(3));
    Check.due("no byte", RingDrive.NONE, check.drive.out(0));
    Check.due("it stays open", "0 0 0", check.afterWrite(2, "1"));
    check.open(3, "#");
    check.drive.close(3);
    Check.due("closed again", "61 0 0", check.afterRead(3, 1));
    for (int c = 0; c < 15; c++) {
      Check.due("channel " + c, 0, check.drive.read(c, 1));
      Check.due("61", 61, check.drive.look(0));
    }
  }

  private static void sizes() {
    for (int size : new int[] {0, 1, 2, 61, 62, 63, 123, 124, 125, 186, 187}) {
      Check check = Check.formatted();
      String bytes = Check.many(size);
      check.file("F", bytes);
      check.open(2, "F");
      Check.due("a file of " + size, bytes, check.read(2, 300));
      Check.due("its END", size > 0, check.drive.look(3) == 1);
      Check.due("status", "0 0 0", check.status());
      check.open(2, "F");
      Check.due("but one", Math.max(0, size - 1), size < 2 ? Math.max(0, size - 1) : check.drive.read(2, size - 1));
      Check.due("no END", 0, size < 2 ? 0 : check.drive.look(3));
      Check.due("the last one", Math.min(1, size), check.drive.read(2, 300));
      Check.due("its END", size > 0, check.drive.look(3) == 1);
    }
    Check check = Check.formatted();
    check.file("F", Check.many(1000));
    check.open(2, "F");
    for (int at = 0; at < 1000; at += 200) {
      Check.due("200 of 1000", 200, check.drive.read(2, 200));
      Check.due("first", Check.many(1000).charAt(at), check.drive.out(0));
      Check.due("last", Check.many(1000).charAt(at + 199), check.drive.out(199));
      Check.due("END", at == 800, check.drive.look(3) == 1);
    }
  }

  private static void nextBlock() {
    Check check = Check.formatted();
    check.file("A", Check.many(130));
    check.open(2, "A");
    check.spoil(6, 3);
    Check.due("up to the block's last byte", 62, check.drive.read(2, 62));
    Check.due("no fault yet", "0 0 0", check.status());
    Check.due("open", 1, check.drive.look(7));
    check.spoil(6, 3);
    Check.due("one more", Check.text(Check.many(63).charAt(62)), check.read(2, 1));
    // Of a block that was READ nothing is READ again, but the next one is that of now.
    check.poke(6, 3, 10, 0);
    check.poke(6, 3, 0, 99, 98);
    Check.due("what was READ", Check.many(124).substring(63), check.read(2, 61));
    Check.due("and the next one", "0 0 0", check.afterRead(2, 300));
    check.open(2, "A");
    Check.due("not LEGAL", 124, check.drive.read(2, 300));
    Check.due("71", "71 99 98", check.status());
    check.poke(6, 3, 0, 6, 7);
    check.open(2, "A");
    Check.due("not LEGAL", "71 6 7", check.afterRead(2, 300));
    check.poke(6, 3, 0, 6, 0);
    check.open(2, "A");
    Check.due("a chain that goes round", 300, check.drive.read(2, 300));
    Check.due("a chain that goes round", 300, check.drive.read(2, 300));
    Check.due("no END", 0, check.drive.look(3));
  }

  private static void readingFault() {
    Check check = Check.formatted();
    check.file("A", Check.many(130));
    check.open(2, "A");
    check.spoilSum(6, 3);
    Check.due("bytes ahead of it come", Check.many(62), check.read(2, 300));
    Check.due("23", "23 6 3", check.status());
    Check.due("no END", 0, check.drive.look(3));
    Check.due("closed", 0, check.drive.look(7));
    Check.due("closed", "61 0 0", check.afterRead(2, 300));
  }

  private static void behindTheEnd() {
    Check check = Check.formatted();
    check.file("A", "XY");
    check.open(2, "A");
    Check.due("all", 2, check.drive.read(2, 2));
    Check.due("END", 1, check.drive.look(3));
    for (int i = 0; i < 3; i++) {
      Check.due("nothing", 0, check.drive.read(2, 300));
      Check.due("no END", 0, check.drive.look(3));
      Check.due("no fault", "0 0 0", check.status());
      Check.due("open", 1, check.drive.look(7));
    }
    check.file("E", "");
    check.open(3, "E");
    Check.due("a file of no byte", 0, check.drive.read(3, 300));
    Check.due("no END", 0, check.drive.look(3));
    Check.due("no fault", "0 0 0", check.status());
    check.file("B", Check.many(63));
    check.poke(6, 5, 1, 1);
    Check.due("the last block", Check.text(0, 1), check.block(6, 5, 0, 2));
    check.open(4, "B");
    Check.due("a last block of no byte", 62, check.drive.read(4, 300));
    Check.due("no END", 0, check.drive.look(3));
    Check.due("nothing", 0, check.drive.read(4, 300));
    Check.due("no fault", "0 0 0", check.status());
    Check.due("open", 2, check.drive.look(7));
  }

  private static void endOfList() {
    Check check = Check.formatted();
    check.open(2, "$");
    Check.due("all but one", 23, check.drive.read(2, 23));
    Check.due("no END", 0, check.drive.look(3));
    Check.due("the last one", "\r", check.read(2, 300));
    Check.due("END", 1, check.drive.look(3));
    Check.due("open", 1, check.drive.look(7));
    check.open(2, "$");
    Check.due("a line's end isn't the END", 16, check.drive.read(2, 16));
    Check.due("no END", 0, check.drive.look(3));
    Check.due("the rest", 8, check.drive.read(2, 300));
  }

  private static void endOfBuffer() {
    Check check = new Check();
    check.open(2, "#");
    Check.due("64", 64, check.drive.read(2, 300));
    Check.due("END", 1, check.drive.look(3));
    Check.due("63", 63, check.drive.read(2, 63));
    Check.due("no END", 0, check.drive.look(3));
    Check.due("one", 1, check.drive.read(2, 300));
    Check.due("END", 1, check.drive.look(3));
    check.command("B-P:2,63");
    Check.due("from 63 on", 1, check.drive.read(2, 300));
    Check.due("END", 1, check.drive.look(3));
    Check.due("then from 0 on", 64, check.drive.read(2, 64));
    check.command("B-P:2,10");
    Check.due("from 10 on", 54, check.drive.read(2, 300));
  }

  // ---- writing ----

  private static void notToBeWritten() {
    Check check = Check.formatted();
    check.file("A", "1");
    Check.due("closed", "61 0 0", check.afterWrite(2, "X"));
    check.open(2, "A");
    Check.due("reads", "61 0 0", check.afterWrite(2, "X"));
    Check.due("it stays open", "1", check.read(2, 300));
    check.open(3, "$");
    Check.due("lists", "61 0 0", check.afterWrite(3, "X"));
    Check.due("it stays open", 2, check.drive.look(7));
    for (int c = 4; c < 15; c++) {
      Check.due("channel " + c, 61, check.write(c, "X"));
    }
  }

  private static void toBuffer() {
    Check check = new Check();
    check.open(2, "#");
    check.write(2, "AB");
    check.write(2, "C");
    Check.due("goes on", 61, check.drive.read(2, 300));
    Check.due("all", "ABC" + "\0".repeat(61), check.read(2, 300));
    check.command("B-P:2,63");
    check.write(2, "XY");
    Check.due("behind 63 to 0", 63, check.drive.read(2, 300));
    Check.due("round", "YBC" + "\0".repeat(60) + "X", check.read(2, 300));
    check.write(2, Check.many(64));
    Check.due("64 bytes: its place is 0 again", Check.many(64), check.read(2, 300));
    check.write(2, Check.many(400));
    Check.due("400 bytes: its place is 16", 48, check.drive.read(2, 300));
    Check.due("the last ones", Check.many(400).substring(384) + Check.many(384).substring(336), check.read(2, 300));
  }

  private static void beginsWithZeros() {
    Check check = Check.formatted();
    check.setBlock(6, 0, Check.many(64));
    check.open(2, "A,W");
    check.write(2, "XY");
    check.drive.close(2);
    Check.due("the first one", Check.text(0, 3) + "XY" + "\0".repeat(60), check.block(6, 0));
    check.file("B", Check.many(64));
    Check.due("a next one", Check.text(0, 3) + Check.many(64).substring(62) + "\0".repeat(60), check.block(6, 4));
  }

  private static void oneMoreComes() {
    Check check = Check.formatted();
    check.open(2, "A,W");
    Check.due("62", "0 0 0", check.afterWrite(2, Check.many(62)));
    Check.due("nothing is written yet", "\0".repeat(64), check.block(6, 0));
    Check.due("nothing is taken yet", Check.text(6, 126), check.block(7, 0, 14, 2));
    Check.due("one more", "0 0 0", check.afterWrite(2, "X"));
    Check.due("the full one is written", Check.text(6, 3) + Check.many(62), check.block(6, 0));
    Check.due("a next one is taken", Check.text(5, 118), check.block(7, 0, 14, 2));
    Check.due("it isn't written yet", "\0".repeat(64), check.block(6, 3));
    check.write(2, Check.many(61));
    Check.due("62 again", Check.text(5, 118), check.block(7, 0, 14, 2));
    check.drive.close(2);
    Check.due("closed", Check.text(0, 63) + "X" + Check.many(61), check.block(6, 3));
    Check.due("two blocks", 2, check.block(7, 1, 15, 1).charAt(0));
  }

  private static void anotherFault() {
    Check check = Check.formatted();
    check.open(2, "A,W");
    check.write(2, Check.many(62));
    check.spoilSum(7, 0);
    Check.due("the MAP can't be loaded", "23 7 0", check.afterWrite(2, "X"));
    Check.due("closed", 0, check.drive.look(7));
    check.spoilSum(7, 0);
    Check.due("alone: its entry stays", "0 \"A\" S*\r71 FREE\r", check.entries());
    Check.due("nothing is written", "\0".repeat(64), check.block(6, 0));
    check.open(2, "B,W");
    check.write(2, Check.many(62));
    check.drive.protect(true);
    Check.due("the MAP can't be stored", "26 7 0", check.afterWrite(2, "X"));
    Check.due("closed", 0, check.drive.look(7));
    check.drive.protect(false);
    Check.due("alone", "0 \"A\" S*\r0 \"B\" S*\r70 FREE\r", check.entries());
    check.open(2, "C,W");
    check.write(2, Check.many(62));
    check.spoil(6, 2);
    Check.due("the full one can't be written", "20 6 2", check.afterWrite(2, "X"));
    Check.due("closed", 0, check.drive.look(7));
    Check.due("the next one stays taken", "0 \"A\" S*\r0 \"B\" S*\r0 \"C\" S*\r68 FREE\r", check.entries());
  }

  private static void lost() {
    Check check = Check.formatted();
    check.leaveFree(6, 0, 6, 1, 6, 2);
    check.open(2, "A,W");
    check.open(3, "#");
    check.spoil(6, 0);
    Check.due("20", "20 6 0", check.afterWrite(2, Check.many(300)));
    Check.due("6, 1 was taken as next one, but none behind that", Check.text(1, 4), check.block(7, 0, 14, 2));
    Check.due("closed", "61 0 0", check.afterWrite(2, "X"));
    Check.due("the other one is open", 1, check.drive.look(7));
  }

  // ---- full disks ----

  private static void full() {
    Check check = Check.formatted();
    check.leaveFree(6, 0, 6, 3, 8, 1);
    check.open(2, "A,W");
    check.open(3, "#");
    Check.due("three blocks", "0 0 0", check.afterWrite(2, Check.many(186)));
    Check.due("map", Check.text(0, 0), check.block(7, 0, 14, 2));
    Check.due("one more", "72 0 0", check.afterWrite(2, "XYZ"));
    Check.due("given back", Check.text(2, 9), check.block(7, 0, 14, 2));
    Check.due("given back", Check.text(1, 2), check.block(7, 0, 18, 2));
    Check.due("the other channel is open", 1, check.drive.look(7));
    // One block alone: the first one is the latest one.
    check.open(2, "B,W");
    check.leaveFree();
    check.write(2, Check.many(62));
    Check.due("one block", "72 0 0", check.afterWrite(2, "X"));
    Check.due("given back", Check.text(1, 1), check.block(7, 0, 14, 2));
    // By their chain on the disk: a block that was put in there is given back, too.
    check = Check.formatted();
    check.leaveFree(6, 0, 6, 3);
    check.open(2, "A,W");
    check.write(2, Check.many(124));
    check.poke(6, 0, 0, 1, 1);
    check.setBlock(1, 1, Check.text(6, 3));
    Check.due("72", "72 0 0", check.afterWrite(2, "X"));
    Check.due("that one", Check.text(1, 2), check.block(7, 0, 4, 2));
    Check.due("those of the FILE", Check.text(2, 9), check.block(7, 0, 14, 2));
  }

  /** A file that is written and has all 72 blocks; its first block is 6, 0. */
  private static Check wholeDisk() {
    Check check = Check.formatted();
    check.open(2, "A,S,W");
    for (int i = 0; i < 12; i++) {
      check.write(2, Check.many(372));
    }
    Check.due("none is left", Check.text(0, 0), check.block(7, 0, 4, 2));
    return check;
  }

  private static void fullChain() {
    Check check = wholeDisk();
    Check.due("72 blocks", "72 0 0", check.afterWrite(2, "X"));
    Check.due("all are FREE", "72 FREE\r", check.entries());
    // One more ahead of the latest one: 72 by the chain and then that.
    check = wholeDisk();
    int next = check.block(6, 0, 1, 1).charAt(0);
    check.poke(7, 5, 0, 6, next);
    check.poke(6, 0, 0, 7, 5);
    Check.due("72 ahead of the latest one", "72 0 0", check.afterWrite(2, "X"));
    Check.due("that was given back, too", Check.text(4, 60), check.block(7, 0, 16, 2));
    // Two more: the 73rd is the one ahead of the latest one.
    check = wholeDisk();
    check.poke(7, 5, 0, 7, 4);
    check.poke(7, 4, 0, 6, next);
    check.poke(6, 0, 0, 7, 5);
    Check.due("a 73rd", 71, check.write(2, "X"));
    Check.due("of track 1", 1, check.drive.look(1));
    Check.due("the MAP isn't stored", Check.text(0, 0), check.block(7, 0, 4, 2));
    check = Check.formatted();
    check.leaveFree(6, 0, 6, 3);
    check.open(2, "A,W");
    check.write(2, Check.many(124));
    check.poke(6, 0, 0, 6, 0);
    Check.due("a chain that goes round", "71 6 0", check.afterWrite(2, "X"));
    check = Check.formatted();
    check.leaveFree(6, 0, 6, 3);
    check.open(2, "A,W");
    check.write(2, Check.many(124));
    check.poke(6, 0, 0, 0, 9);
    Check.due("a chain that ends ahead of the latest one", "71 0 9", check.afterWrite(2, "X"));
  }

  private static void fullEntry() {
    Check check = Check.formatted();
    check.leaveFree(6, 0, 6, 3);
    check.open(2, "A,W");
    check.write(2, Check.many(124));
    Check.due("72", "72 0 0", check.afterWrite(2, "X"));
    Check.due("TYPE 0, else as it was", Check.text(0, 255, 0, 6, 0) + Check.padded("A") + Check.text(0), check.block(7, 1, 0, 16));
    Check.due("closed", 0, check.drive.look(7));
    Check.due("closed", "61 0 0", check.afterWrite(2, "X"));
    Check.due("its NAME is free", "0 0 0", check.afterOpen(2, "A,W"));
    // Its own ENTRY, whichever was looked at last.
    check = Check.formatted();
    check.file("B", "1");
    check.leaveFree(6, 0, 6, 3);
    check.open(2, "A,W");
    check.open(3, "C");
    check.write(2, Check.many(124));
    check.open(3, "B");
    Check.due("72", "72 0 0", check.afterWrite(2, "X"));
    Check.due("that of A", Check.text(129), check.block(7, 1, 2, 1));
    Check.due("that of A", Check.text(0), check.block(7, 1, 18, 1));
  }

  /** A file of two blocks on a full disk; then something happens to the disk, and one more byte comes. */
  private static Check twoBlocks() {
    Check check = Check.formatted();
    check.leaveFree(6, 0, 6, 3);
    check.open(2, "A,W");
    check.write(2, Check.many(124));
    return check;
  }

  private static void gaveUp(Check check, String want, String wantMap) {
    Check.due("one more", want, check.afterWrite(2, "X"));
    Check.due("closed", 0, check.drive.look(7));
    Check.due("map", wantMap, check.block(7, 0, 14, 2));
    Check.due("the entry stays", 1, check.block(7, 1, 2, 1).charAt(0));
  }

  private static void fullFaults() {
    Check check = twoBlocks();
    check.poke(6, 0, 0, 99, 98);
    gaveUp(check, "71 99 98", Check.text(0, 0));
    check = twoBlocks();
    check.spoil(6, 0);
    gaveUp(check, "20 6 0", Check.text(0, 0));
    check = twoBlocks();
    check.drive.protect(true);
    gaveUp(check, "26 7 0", Check.text(0, 0));
    check = twoBlocks();
    check.spoil(7, 1);
    gaveUp(check, "20 7 1", Check.text(2, 9));
    check = twoBlocks();
    check.spoilSum(7, 1);
    gaveUp(check, "23 7 1", Check.text(2, 9));
    check = twoBlocks();
    check.spoilWriting(7, 1);
    Check.due("the entry can't be written", "25 7 1", check.afterWrite(2, "X"));
    Check.due("closed", 0, check.drive.look(7));
    Check.due("map", Check.text(2, 9), check.block(7, 0, 14, 2));
  }

  // ---- closing ----

  private static void lastBlock() {
    for (int size : new int[] {0, 1, 61, 62, 63, 124, 125}) {
      Check check = Check.formatted();
      check.open(2, "A,S,W");
      check.write(2, Check.many(size));
      Check.due("close", 0, check.drive.close(2));
      int blocks = Math.max(1, (size + 61) / 62);
      int sector = new int[] {0, 0, 3, 6}[blocks];
      int ahead = 62 * (blocks - 1);
      Check.due("last block of " + size, Check.text(0, 1 + size - ahead) + Check.many(size).substring(ahead) + "\0".repeat(62 - size + ahead),
          check.block(6, sector));
      Check.due("TYPE of " + size, 129, check.block(7, 1, 2, 1).charAt(0));
      Check.due("blocks of " + size, blocks, check.block(7, 1, 15, 1).charAt(0));
    }
    // The ENTRY is that of now: one that was scratched meanwhile gets CLOSED.
    Check check = Check.formatted();
    check.open(2, "A,W");
    check.command("S:A");
    Check.due("close", "0 0 0", check.afterClose(2));
    Check.due("128 more than none", 128, check.block(7, 1, 2, 1).charAt(0));
    // Its own ENTRY, whichever was looked at last.
    check = Check.formatted();
    check.file("B", "1");
    check.open(2, "A,W");
    check.open(3, "B");
    check.drive.close(2);
    Check.due("that of A", Check.text(129, 6, 1) + Check.padded("A") + Check.text(1), check.block(7, 1, 18, 14));
    // One of another block of the DIRECTORY.
    check = Check.formatted();
    for (int i = 0; i < 4; i++) {
      check.file("F" + i, "");
    }
    check.file("A", Check.many(63));
    Check.due("its entry", Check.text(129), check.block(7, 2, 2, 1));
    Check.due("its entry", Check.text(2), check.block(7, 2, 15, 1));
  }

  private static void closingFault() {
    Check check = Check.formatted();
    check.open(2, "A,W");
    check.drive.protect(true);
    Check.due("close", 26, check.drive.close(2));
    Check.due("told", "26 6 0", check.status());
    Check.due("closed", 0, check.drive.look(7));
    Check.due("again", "0 0 0", check.afterClose(2));
    check.drive.protect(false);
    Check.due("the ENTRY isn't CLOSED", "0 \"A\" S*\r71 FREE\r", check.entries());
    check.open(2, "B,W");
    check.spoil(7, 1);
    Check.due("of the ENTRY", "20 7 1", check.afterClose(2));
    Check.due("closed", 0, check.drive.look(7));
  }

  private static void others() {
    Check check = Check.formatted();
    check.file("A", "1");
    check.open(2, "A");
    check.open(3, "$");
    check.open(4, "#");
    check.drive.protect(true);
    Check.due("one that reads", "0 0 0", check.afterClose(2));
    Check.due("one that lists", "0 0 0", check.afterClose(3));
    Check.due("a buffer", "0 0 0", check.afterClose(4));
    Check.due("none is open", 0, check.drive.look(7));
    Check.due("one that is closed", "0 0 0", check.afterClose(4));
  }

  private static void closeOf15() {
    Check check = Check.formatted();
    check.open(14, "A,W");
    check.open(0, "B,S,W");
    check.open(7, "C,W");
    Check.due("all", "0 0 0", check.afterClose(15));
    Check.due("none is open", 0, check.drive.look(7));
    Check.due("list", "1 \"A\" S\r1 \"B\" S\r1 \"C\" S\r69 FREE\r", check.entries());
    check.open(14, "D,W");
    check.open(0, "E,S,W");
    check.open(7, "F,W");
    check.spoil(6, 5); // that of F: E is closed ahead of it, D isn't
    Check.due("a fault of the second one", "20 6 5", check.afterClose(15));
    Check.due("none is open", 0, check.drive.look(7));
    Check.due("list", "1 \"A\" S\r1 \"B\" S\r1 \"C\" S\r0 \"D\" S*\r1 \"E\" S\r0 \"F\" S*\r66 FREE\r", check.entries());
    Check.due("when none is open", "0 0 0", check.afterClose(15));
  }
}
