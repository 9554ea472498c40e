/** COMMANDS, sentence by sentence (promises 3 and 4 of channel 15). */
public final class CommandTest {
  private static final int NONE = RingDrive.NONE;

  public static void main(String[] args) {
    Check.sentence("COMMANDS (done when their TEXT has come; 31: another one).", CommandTest::anotherOne);
    numbers();
    newDisk();
    scratch();
    rename();
    restart();
    validate();
    blocks();
    memory();
    Check.end();
  }

  private static void numbers() {
    Check.sentence("NUMBERS: digits behind whatever is no digit", CommandTest::digits);
    Check.sentence("three at most are taken (more: 30), 30 if one is missing, or above 255", CommandTest::wrongNumbers);
    Check.sentence("they lie behind the first : (30: none).", CommandTest::behindColon);
  }

  private static void newDisk() {
    Check.sentence("(30: no : behind N, no NAME, more than ten bytes of it, or not just two bytes behind the comma)", CommandTest::wrongNew);
    Check.sentence("all channels 0 to 14 are closed without more; FORMAT tracks 12 to 1 with ij; that is IN HAND; then as N:NAME.",
        CommandTest::newWithId);
    Check.sentence("(the ID IN HAND, taken if there is none) the MAP: all blocks FREE but 7, 0 and 7, 1; its NAME, the ID; written",
        CommandTest::newWithoutId);
    Check.sentence("then 7, 1: 0, 255, zeros.", CommandTest::newDirectory);
    Check.sentence("(33: * or ? in a NAME here and in R.)", CommandTest::wildNames);
  }

  private static void scratch() {
    Check.sentence("S:PATTERN (30: no :, no byte, more than ten)", CommandTest::wrongScratch);
    Check.sentence("again and again the first ENTRY with a TYPE that it FITS is SCRATCHED", CommandTest::againAndAgain);
    Check.sentence("its CHAIN is freed (from its first block), then the ENTRY CHANGED to TYPE 0", CommandTest::freed);
    Check.sentence("then 1, how many, 0.", CommandTest::howMany);
    Check.sentence("(Files that a channel READS or WRITES, too.)", CommandTest::openFiles);
  }

  private static void rename() {
    Check.sentence("R:NEW=OLD (30: not so, a NAME empty or above ten bytes", CommandTest::wrongRename);
    Check.sentence("63: an ENTRY has the NAME NEW; 62: none has OLD)", CommandTest::hasTheName);
    Check.sentence("it's CHANGED to that NAME.", CommandTest::renamed);
  }

  private static void restart() {
    Check.sentence("I: the ID is TAKEN anew, the MAP loaded.", CommandTest::initialise);
    Check.sentence("UI: channels 0 to 14 are closed without more, no ID is IN HAND, the STATUS 73.", CommandTest::restarted);
  }

  private static void validate() {
    Check.sentence("V: the MAP is loaded; all blocks become FREE but 7, 0 and those of the DIRECTORY (at most six; 71: the next one isn't LEGAL)",
        CommandTest::allFree);
    Check.sentence("by ENTRIES: one that isn't CLOSED is CHANGED to TYPE 0", CommandTest::notClosed);
    Check.sentence("71 if it is not LEGAL or not FREE now; it's not FREE then; READ.", CommandTest::chainsOfFiles);
    Check.sentence("At last the MAP is stored; behind a fault it isn't.", CommandTest::storedAtLast);
  }

  private static void blocks() {
    Check.sentence("U1:c,t,s and U2:c,t,s: 70: c is no BUFFER; 66 t s: not LEGAL", CommandTest::noBuffer);
    Check.sentence("the block is READ to the BUFFER (its place 0), or the BUFFER written.", CommandTest::moves);
    Check.sentence("B-P:c,n: 70; its place is the lowest six bits of n.", CommandTest::places);
    Check.sentence("if its bit is 1 the block is TAKEN, the MAP stored", CommandTest::allocated);
    Check.sentence("else 65 with the next block whose bit is 1 (higher sectors of the track, then tracks above it from 0 on; 0 0: none).",
        CommandTest::nextFree);
    Check.sentence("B-F:t,s: 66; loaded, GIVEN BACK, stored.", CommandTest::freedBlock);
  }

  private static void memory() {
    Check.sentence("(bytes behind the three letters; those that are missing are 0; n 0 is none)", CommandTest::missingBytes);
    Check.sentence("l + 256 h (round 2,048) is an address of the PROGRAM's memory of 2,048 bytes", CommandTest::addresses);
    Check.sentence("bytes go there (those that came)", CommandTest::thoseThatCame);
    Check.sentence("(what channel 15 reads next, the last one the END, then the STATUS again", CommandTest::replies);
    Check.sentence("lost when something else is opened, closed, read or done", CommandTest::lost);
    Check.sentence("n above 32: the fault 32, and nothing comes)", CommandTest::aboveThirtyTwo);
  }

  private static void all(Check check, String want, String... texts) {
    for (String text : texts) {
      Check.due(text, want, check.after(text));
    }
  }

  private static String mapOf(Check check, int track) {
    return check.block(7, 0, 2 + 2 * track, 2);
  }

  private static void anotherOne() {
    Check check = Check.formatted();
    all(check, "31 0 0", "X", " N:A", "n:A,BC", "s:A", "U", "U3:1,1,1", "U0", "UJ", "u1:2,1,1", "B", "B-", "B-X:1,1", "B:P", "BP:1,1", "M", "M-",
        "M-X", "MW", "-", ":", "1", "\0", "\u00FF", "$", "#", "A,W", "b-p:2,1", "m-r", "0:N");
    check.write(15, "X");
    Check.due("by write()", "31 0 0", check.status());
    check.open(2, "#");
    Check.due("by write()", 0, check.write(15, "B-P:2,9"));
    Check.due("done", 55, check.drive.read(2, 300));
    Check.due("by open()", 0, check.open(15, "B-P:2,9"));
    Check.due("done", 55, check.drive.read(2, 300));
  }

  // ---- numbers ----

  private static void digits() {
    Check check = Check.formatted();
    check.open(2, "#");
    all(check, "0 0 0", "U1:2,1,0", "U1:002,001,000", "U1: 2 1 0", "U1:2x1y0z", "U1:2;1/0", "U1:2,,,1,,,0", "U1::2:1:0", "B-P:2,255", "B-P:2,063X",
        "B-P:2 9", "U1:\0002\3771,0");
    all(check, "66 12 5", "U1:2,12,5", "U1:2,012,005", "B-A:12,5", "B-F: 12 5");
    all(check, "66 255 255", "B-A:255,255");
    check.command("B-P:2,10");
    Check.due("B-P:2,10", 54, check.drive.read(2, 300));
  }

  private static void wrongNumbers() {
    Check check = Check.formatted();
    check.open(2, "#");
    all(check, "30 0 0", "U1:2,1,0000", "U1:0002,1,0", "U1:2,0001,0", "U1:2,256,0", "U1:256,1,0", "U1:2,1,256", "U1:2,1,999", "B-P:2,256",
        "B-P:2,0009", "B-P:256,1", "B-P:0002,1", "B-A:1,1000", "B-A:256,1", "B-A:1,256", "B-F:0001,1", "B-F:300,1");
    all(check, "30 0 0", "U1:", "U1:2", "U1:2,1", "U1:2,1,", "U1:,,", "U2:2;1", "U2:2,1,x", "B-P:", "B-P:2", "B-P:2,", "B-A:", "B-A:1", "B-F:1,",
        "B-F:x");
    all(check, "0 0 0", "U1:2,1,7", "U1:002,1,007", "B-P:2,255", "B-P:2,000");
    Check.due("30 is ahead of 70", "30 0 0", check.after("U1:3,1"));
    Check.due("30 is ahead of 66", "30 0 0", check.after("B-A:99"));
    Check.due("30 is ahead of 66", "30 0 0", check.after("U1:2,99,256"));
  }

  private static void behindColon() {
    Check check = Check.formatted();
    check.open(2, "#");
    all(check, "30 0 0", "U1", "U1 2 1 0", "U12,1,0", "U2", "B-P", "B-P 2,1", "B-A", "B-A 1,1", "B-F", "B-F1,1", "U1 2,1:0", "U1 2:1,0");
    all(check, "0 0 0", "U1 9,9,9:2,1,0", "U1X:2,1,0", "B-P9:2,1");
    all(check, "66 3 9", "B-A 1,1:3,9", "B-A:3,9:1,1");
  }

  // ---- N ----

  private static void wrongNew() {
    Check check = Check.formatted();
    check.open(2, "#");
    all(check, "30 0 0", "N", "NA", "N0:A,BC", "NA,BC", "N A:B,CD", "N,:A");
    all(check, "30 0 0", "N:", "N:,BC", "N:,");
    all(check, "30 0 0", "N:ABCDEFGHIJK", "N:ABCDEFGHIJK,BC");
    all(check, "30 0 0", "N:A,", "N:A,B", "N:A,BCD", "N:A,B,CD", "N:A,BC,");
    Check.due("nothing was done", 1, check.drive.look(7));
    Check.due("nothing was done", "DISK", check.block(7, 0, 28, 4));
    all(check, "0 0 0", "N:A", "N:ABCDEFGHIJ", "N:A:B", "N:A,BC", "N:ABCDEFGHIJ,BC", "N:A,,,", "N:A,\0\0", "N::");
  }

  private static void newWithId() {
    Check check = Check.formatted();
    check.open(2, "A,W");
    check.open(3, "#");
    check.setBlock(1, 0, "X".repeat(64));
    Check.due("N", "0 0 0", check.after("N:NEW,ij"));
    Check.due("channels are closed", 0, check.drive.look(7));
    Check.due("without more", "\0".repeat(64), check.block(6, 0));
    Check.due("IN HAND", 'i', check.drive.look(5));
    Check.due("IN HAND", 'j', check.drive.look(6));
    Check.due("formatted", "\0".repeat(64), check.block(1, 0));
    for (int track = 1; track <= 12; track++) {
      Check.due("track " + track, Bits.header(track, 4, 'i', 'j'), Bits.at(check.drive, track, Bits.headerAt(4), 80));
    }
    Check.due("list", "\"NEW       \" ij\r72 FREE\r", check.list());
    check.open(3, "#");
    check.drive.protect(true);
    Check.due("a fault of FORMAT", "26 12 0", check.after("N:OLD,kl"));
    Check.due("channels are closed ahead of it", 0, check.drive.look(7));
    Check.due("IN HAND as it was", 'i', check.drive.look(5));
    check = new Check();
    Check.due("a disk of 0s", "0 0 0", check.after("N:A,BC"));
    Check.due("list", "\"A         \" BC\r72 FREE\r", check.list());
  }

  private static void newWithoutId() {
    Check check = Check.formatted();
    check.file("F", "X");
    check.open(2, "#");
    Check.due("N", "0 0 0", check.after("N:B"));
    Check.due("no channel is closed", 1, check.drive.look(7));
    Check.due("blocks stay", Check.text(0, 2) + "X", check.block(6, 0, 0, 3));
    Check.due("list", "\"B         \" AB\r72 FREE\r", check.list());
    Check.due("track 7", Check.text(4, 60), mapOf(check, 7));
    check.command("UI");
    Check.due("the ID is taken", "0 0 0", check.after("N:C"));
    Check.due("it", 'A', check.drive.look(5));
    Check.due("list", "\"C         \" AB\r72 FREE\r", check.list());
    // That IN HAND serves, though the first header of track 7 has another one (7, 0 is where 7, 5 was).
    Bits.make(check.drive, 7, Bits.headerAt(0), Bits.header(7, 0, 'X', 'Y'));
    Bits.make(check.drive, 7, Bits.headerAt(5), Bits.header(7, 0, 'A', 'B'));
    Check.due("that IN HAND", "0 0 0", check.after("N:D"));
    Check.due("it stays", 'A', check.drive.look(5));
    Check.due("it is written", "AB", check.block(7, 5, 38, 2));
    check.drive.protect(true);
    Check.due("not written", "26 7 0", check.after("N:E"));
    check = new Check();
    Check.due("none to be taken", "74 7 0", check.after("N:NAME"));
    check.drive.protect(true);
    Check.due("ahead of WRITE", "74 7 0", check.after("N:NAME"));
  }

  private static void newDirectory() {
    Check check = Check.formatted();
    check.setBlock(7, 1, Check.many(64));
    check.command("N:B");
    Check.due("7, 1", Check.text(0, 255) + "\0".repeat(62), check.block(7, 1));
    check.spoil(7, 1);
    Check.due("not written", "20 7 1", check.after("N:C"));
    Check.due("the MAP was", Check.padded("C"), check.block(7, 0, 28, 10));
    check.spoil(7, 1);
    check.spoil(7, 0);
    check.setBlock(7, 1, Check.many(64));
    Check.due("the MAP not written", "20 7 0", check.after("N:D"));
    Check.due("7, 1 neither", Check.many(64), check.block(7, 1));
  }

  private static void wildNames() {
    Check check = Check.formatted();
    check.file("A", "1");
    all(check, "33 0 0", "N:*", "N:A?", "N:A*,BC", "N:?BCDEFGHIJ", "N:ABCDEFGHI*");
    all(check, "33 0 0", "R:C=?", "R:C*=A", "R:*=*", "R:C=A*", "R:ABCDEFGHI?=A", "R:X=ABCDEFGHI*");
    Check.due("nothing was done", "\"DISK      \" AB\r1 \"A\" S\r71 FREE\r", check.list());
    all(check, "0 0 0", "N:A,*?");
    Check.due("in an ID", '*', check.drive.look(5));
  }

  // ---- S ----

  private static void wrongScratch() {
    Check check = Check.formatted();
    check.file("A", "1");
    all(check, "30 0 0", "S", "SA", "S0:A", "S A:B", "S*");
    all(check, "30 0 0", "S:");
    all(check, "30 0 0", "S:ABCDEFGHIJK", "S:**********X");
    Check.due("nothing was done", "1 \"A\" S\r71 FREE\r", check.entries());
    all(check, "1 0 0", "S:ABCDEFGHIJ", "S::", "S:B");
  }

  private static void againAndAgain() {
    Check check = Check.formatted();
    for (String name : new String[] {"A", "AB", "B", "AC", "BA", "AD"}) {
      check.file(name, "");
    }
    Check.due("A?", "1 3 0", check.after("S:A?"));
    Check.due("left", "1 \"A\" S\r1 \"B\" S\r1 \"BA\" S\r69 FREE\r", check.entries());
    Check.due("again", "1 0 0", check.after("S:A?"));
    Check.due("all", "1 3 0", check.after("S:*"));
    Check.due("none is left", "72 FREE\r", check.entries());
    Check.due("none without TYPE", "1 0 0", check.after("S:*"));
    // Two of the same NAME.
    check.file("A", "");
    check.file("B", "");
    check.poke(7, 1, 21, 'A');
    check.poke(7, 1, 2, 128);
    check.poke(7, 1, 18, 1);
    Check.due("two, one of TYPE 128, one not CLOSED", "1 2 0", check.after("S:A"));
    Check.due("none is left", "72 FREE\r", check.entries());
  }

  private static void freed() {
    Check check = Check.formatted();
    check.file("A", Check.many(200));
    check.file("B", "1");
    Check.due("four blocks", Check.text(2, 127 - 1 - 8 - 64 - 4 - 2), mapOf(check, 6));
    Check.due("S", "1 1 0", check.after("S:A"));
    Check.due("freed", Check.text(6, 127 - 2), mapOf(check, 6));
    Check.due("TYPE 0, else as it was", Check.text(0, 6, 0) + Check.padded("A") + Check.text(4), check.block(7, 1, 2, 14));
    check.poke(7, 1, 19, 99, 98);
    Check.due("a fault of the chain", "71 99 98", check.after("S:B"));
    Check.due("the ENTRY stays", 129, check.block(7, 1, 18, 1).charAt(0));
    check.poke(7, 1, 19, 6, 1);
    check.spoilWriting(7, 1);
    Check.due("the ENTRY can't be written", "25 7 1", check.after("S:B"));
    Check.due("the chain is freed all the same", Check.text(7, 127), mapOf(check, 6));
  }

  private static void howMany() {
    Check check = Check.formatted();
    for (int i = 0; i < 12; i++) {
      check.file("F" + i, "");
    }
    Check.due("none", "1 0 0", check.after("S:X"));
    Check.due("one", "1 1 0", check.after("S:F3"));
    Check.due("eleven, of three blocks of the DIRECTORY", "1 11 0", check.after("S:F*"));
    Check.due("spelled", "01,FILES SCRATCHED,11,00\r", check.read(15, 300));
  }

  private static void openFiles() {
    Check check = Check.formatted();
    check.file("A", Check.many(100));
    check.open(2, "A");
    check.open(3, "B,W");
    check.write(3, Check.many(63));
    Check.due("both", "1 2 0", check.after("S:*"));
    Check.due("list", "72 FREE\r", check.entries());
    Check.due("the channels stay open", 2, check.drive.look(7));
    Check.due("one that reads goes on", Check.many(100), check.read(2, 300));
    Check.due("one that writes goes on", "0 0 0", check.afterWrite(3, "X"));
  }

  // ---- R ----

  private static void wrongRename() {
    Check check = Check.formatted();
    check.file("A", "1");
    all(check, "30 0 0", "R", "R:", "R:B", "RB=A", "R0:B=A", "R=", "R B:C=A", "R=:A");
    all(check, "30 0 0", "R:=A", "R:B=", "R:=");
    all(check, "30 0 0", "R:ABCDEFGHIJK=A", "R:B=ABCDEFGHIJK");
    Check.due("nothing was done", "1 \"A\" S\r71 FREE\r", check.entries());
    all(check, "0 0 0", "R:ABCDEFGHIJ=A", "R:B=ABCDEFGHIJ", "R::=B", "R:C=:");
    Check.due("done", "1 \"C\" S\r71 FREE\r", check.entries());
  }

  private static void hasTheName() {
    Check check = Check.formatted();
    check.file("A", "1");
    check.file("B", "2");
    all(check, "63 0 0", "R:A=B", "R:A=A", "R:A=X", "R:B=A");
    all(check, "62 0 0", "R:C=X", "R:C=AA");
    check.open(3, "D,W");
    all(check, "63 0 0", "R:D=A");
    check.command("S:B");
    all(check, "62 0 0", "R:C=B");
    // Of all ten bytes: to FIT isn't enough.
    check.poke(7, 1, 5, 'A', 160, 'B');
    all(check, "62 0 0", "R:C=A", "R:A=C");
    all(check, "63 0 0", "R:A\u00A0B=C");
    all(check, "0 0 0", "R:C=A\u00A0B", "R:B=C", "R:E=D");
    check.spoil(7, 1);
    all(check, "20 7 1", "R:X=Y");
  }

  private static void renamed() {
    Check check = Check.formatted();
    check.file("LONGERNAME", "1");
    Check.due("R", "0 0 0", check.after("R:B=LONGERNAME"));
    Check.due("the NAME, else as it was", Check.text(129, 6, 0) + Check.padded("B") + Check.text(1), check.block(7, 1, 2, 14));
    for (int i = 0; i < 4; i++) {
      check.file("F" + i, "");
    }
    Check.due("of another block", "0 0 0", check.after("R:X=F3"));
    Check.due("of another block", Check.padded("X"), check.block(7, 2, 5, 10));
    Check.due("two of a NAME: the first", "0 0 0", renameOfTwo());
    check.drive.protect(true);
    Check.due("not written", "26 7 1", check.after("R:C=B"));
    Check.due("none is written for 62", "62 0 0", check.after("R:C=Y"));
  }

  private static String renameOfTwo() {
    Check check = Check.formatted();
    check.file("A", "1");
    check.file("B", "1");
    check.poke(7, 1, 21, 'A');
    String status = check.after("R:C=A");
    Check.due("the first", "CA", check.block(7, 1, 5, 1) + check.block(7, 1, 21, 1));
    return status;
  }

  // ---- I and UI ----

  private static void initialise() {
    Check check = Check.formatted();
    check.open(2, "A,W");
    Check.due("I", "0 0 0", check.after("I"));
    Check.due("channels stay", 1, check.drive.look(7));
    Bits.make(check.drive, 7, Bits.headerAt(0), Bits.header(7, 0, 'X', 'Y'));
    Check.due("anew", "0 0 0", check.after("I"));
    Check.due("the other ID", 'X', check.drive.look(5));
    Check.due("the other ID", 'Y', check.drive.look(6));
    check.spoilSum(7, 0);
    Check.due("the MAP is loaded", "23 7 0", check.after("I"));
    check = new Check();
    Check.due("none", "74 7 0", check.after("I"));
  }

  private static void restarted() {
    Check check = Check.formatted();
    check.open(0, "A,S,W");
    check.open(14, "#");
    check.command("M-W" + Check.text(5, 0, 1, 99));
    Check.due("UI", "73 0 0", check.after("UI"));
    Check.due("channels are closed", 0, check.drive.look(7));
    Check.due("no ID", NONE, check.drive.look(5));
    Check.due("no ID", NONE, check.drive.look(6));
    Check.due("the PROGRAM's memory stays", 99, check.drive.memory(5));
    Check.due("without more", 1, check.block(7, 1, 2, 1).charAt(0));
    Check.due("by write()", 73, check.write(15, "UI"));
  }

  // ---- V ----

  private static void allFree() {
    Check check = Check.formatted();
    check.leaveFree();
    check.poke(7, 0, 3, 77);
    check.poke(7, 0, 63, 88);
    Check.due("V", "0 0 0", check.after("V"));
    for (int track = 1; track <= 12; track++) {
      int sectors = Bits.sectorsOf(track);
      Check.due("track " + track, track == 7 ? Check.text(4, 60) : Check.text(sectors, (1 << sectors) - 1), mapOf(check, track));
    }
    Check.due("what else it has stays", Check.text(77), check.block(7, 0, 3, 1));
    Check.due("what else it has stays", Check.padded("DISK") + "AB", check.block(7, 0, 28, 12));
    Check.due("what else it has stays", Check.text(88), check.block(7, 0, 63, 1));
    check.poke(7, 1, 0, 12, 4);
    check.setBlock(12, 4, Check.text(0, 0));
    Check.due("a second block", "0 0 0", check.after("V"));
    Check.due("isn't FREE", Check.text(4, 15), mapOf(check, 12));
    check.poke(12, 4, 0, 12, 5);
    Check.due("not LEGAL", "71 12 5", check.after("V"));
    check.poke(12, 4, 0, 7, 1);
    Check.due("a chain that goes round", "0 0 0", check.after("V"));
    Check.due("track 7", Check.text(4, 60), mapOf(check, 7));
    check.leaveFree(1, 1);
    check.spoilSum(7, 0);
    Check.due("no MAP", "23 7 0", check.after("V"));
    Check.due("so it isn't stored", Check.text(1, 2), mapOf(check, 1));
    // Six blocks: a seventh stays FREE.
    check = Check.formatted();
    check.poke(7, 1, 0, 12, 0);
    for (int i = 0; i < 4; i++) {
      check.setBlock(12, i, Check.text(12, i + 1));
    }
    check.setBlock(12, 4, Check.text(11, 0));
    Check.due("six", "0 0 0", check.after("V"));
    Check.due("the sixth", Check.text(0, 0), mapOf(check, 12));
    Check.due("the seventh", Check.text(5, 31), mapOf(check, 11));
    check.spoil(12, 3);
    Check.due("one can't be READ", "20 12 3", check.after("V"));
    check = Check.formatted();
    check.file("A", "1");
    check.poke(6, 0, 0, 99, 98);
    Check.due("a chain", "71 99 98", check.after("S:A"));
    check.spoil(7, 1);
    Check.due("the first one can't be READ, whatever was READ before", "20 7 1", check.after("V"));
  }

  private static void notClosed() {
    Check check = Check.formatted();
    check.file("A", "1");
    check.open(2, "B,W");
    check.open(3, "C,U,W");
    check.poke(7, 1, 50, 127);
    Check.due("V", "0 0 0", check.after("V"));
    Check.due("list", "1 \"A\" S\r71 FREE\r", check.entries());
    Check.due("TYPE 0, else as it was", Check.text(0, 6, 1) + Check.padded("B") + Check.text(0), check.block(7, 1, 18, 14));
    Check.due("TYPE 0", 0, check.block(7, 1, 50, 1).charAt(0));
    Check.due("channels stay open", 2, check.drive.look(7));
    // One of TYPE 0 is none: nothing is written for it.
    check = Check.formatted();
    check.drive.protect(true);
    Check.due("none", "26 7 0", check.after("V"));
    check.drive.protect(false);
    check.open(2, "A,W");
    check.drive.protect(true);
    Check.due("one", "26 7 1", check.after("V"));
    check.drive.protect(false);
    // Its chain isn't looked at.
    check.poke(7, 1, 3, 99, 98);
    Check.due("its chain", "0 0 0", check.after("V"));
  }

  private static void chainsOfFiles() {
    Check check = Check.formatted();
    check.file("A", Check.many(200));
    check.file("B", "1");
    check.leaveFree();
    Check.due("V", "0 0 0", check.after("V"));
    Check.due("their blocks", Check.text(2, 127 - 1 - 8 - 64 - 4 - 2), mapOf(check, 6));
    check.poke(7, 1, 19, 6, 3);
    Check.due("a block of two chains", "71 6 3", check.after("V"));
    check.poke(7, 1, 19, 7, 1);
    Check.due("a block of the DIRECTORY", "71 7 1", check.after("V"));
    check.poke(7, 1, 19, 7, 0);
    Check.due("the MAP", "71 7 0", check.after("V"));
    check.poke(7, 1, 19, 7, 2);
    Check.due("another one of track 7", "0 0 0", check.after("V"));
    Check.due("isn't FREE", Check.text(3, 56), mapOf(check, 7));
    check.poke(7, 1, 19, 7, 6);
    Check.due("not LEGAL", "71 7 6", check.after("V"));
    check.poke(7, 1, 19, 0, 0);
    Check.due("not LEGAL", "71 0 0", check.after("V"));
    check.poke(7, 1, 19, 6, 1);
    check.poke(6, 1, 0, 6, 1);
    Check.due("a chain that goes round", "71 6 1", check.after("V"));
    check.poke(6, 1, 0, 0, 2);
    check.spoilSum(6, 3);
    Check.due("one can't be READ", "23 6 3", check.after("V"));
    check = Check.formatted();
    check.file("A", Check.many(72 * 62));
    Check.due("72 blocks", "0 0 0", check.after("V"));
    Check.due("none is FREE", Check.text(0, 0), mapOf(check, 1));
  }

  private static void storedAtLast() {
    Check check = Check.formatted();
    check.file("A", "1");
    check.command("B-A:1,1");
    check.open(2, "W,W");
    check.poke(7, 1, 34, 129, 99, 98);
    Check.due("a fault of the last ENTRY", "71 99 98", check.after("V"));
    Check.due("the MAP isn't stored", Check.text(7, 253), mapOf(check, 1));
    Check.due("one that isn't CLOSED was CHANGED ahead of it", 0, check.block(7, 1, 18, 1).charAt(0));
    check.poke(7, 1, 34, 0);
    check.spoilSum(6, 0);
    Check.due("one that can't be READ", "23 6 0", check.after("V"));
    Check.due("the MAP isn't stored", Check.text(7, 253), mapOf(check, 1));
    check.spoilSum(6, 0);
    check.drive.protect(true);
    Check.due("a fault of storing", "26 7 0", check.after("V"));
    check.drive.protect(false);
    Check.due("V", "0 0 0", check.after("V"));
    Check.due("stored", Check.text(8, 255), mapOf(check, 1));
  }

  // ---- blocks ----

  private static void noBuffer() {
    Check check = Check.formatted();
    check.file("A", "1");
    for (int c : new int[] {0, 1, 2, 14, 15, 16, 255}) {
      all(check, "70 0 0", "U1:" + c + ",1,0", "U2:" + c + ",1,0");
    }
    check.open(2, "$");
    check.open(3, "A");
    check.open(4, "B,W");
    all(check, "70 0 0", "U1:2,1,0", "U1:3,1,0", "U1:4,1,0", "U2:4,1,0");
    Check.due("ahead of 66", "70 0 0", check.after("U1:2,99,0"));
    for (int c : new int[] {0, 14}) {
      check.drive.close(15);
      check.open(c, "#");
      all(check, "0 0 0", "U1:" + c + ",1,0", "U2:" + c + ",1,0");
    }
    check.drive.protect(true);
    Check.due("66 is ahead of 26", "66 12 5", check.after("U2:14,12,5"));
    all(check, "66 0 0", "U1:14,0,0", "U2:14,0,0");
    all(check, "66 1 8", "U1:14,1,8", "U2:14,1,8");
    all(check, "26 1 7", "U2:14,1,7");
  }

  private static void moves() {
    Check check = Check.formatted();
    check.open(2, "#");
    check.open(3, "#");
    check.write(2, Check.many(64));
    check.command("B-P:2,10");
    Check.due("U2", "0 0 0", check.after("U2:2,12,4"));
    Check.due("written", Check.many(64), check.block(12, 4));
    Check.due("its place stays", 54, check.drive.read(2, 300));
    check.write(3, "XYZ");
    Check.due("U1", "0 0 0", check.after("U1:3,12,4"));
    Check.due("from place 0 on", Check.many(64), check.read(3, 300));
    check.command("B-P:3,10");
    check.spoilSum(12, 3);
    Check.due("a fault", "23 12 3", check.after("U1:3,12,3"));
    Check.due("nothing came", Check.many(64).substring(10), check.read(3, 300));
    check.spoil(12, 2);
    Check.due("a fault", "20 12 2", check.after("U2:2,12,2"));
  }

  private static void places() {
    Check check = new Check();
    all(check, "70 0 0", "B-P:2,0", "B-P:15,0", "B-P:255,0");
    check.open(2, "#");
    int[][] rows = {{0, 64}, {1, 63}, {63, 1}, {64, 64}, {65, 63}, {127, 1}, {128, 64}, {255, 1}};
    for (int[] row : rows) {
      Check.due("B-P", "0 0 0", check.after("B-P:2," + row[0]));
      Check.due("place " + row[0], row[1], check.drive.read(2, 300));
    }
    check.command("B-P:2,70");
    check.write(2, "X");
    check.command("B-P:2,6");
    Check.due("written there", "X", check.read(2, 1));
  }

  private static void allocated() {
    Check check = Check.formatted();
    Check.due("B-A", "0 0 0", check.after("B-A:3,2"));
    Check.due("map", Check.text(7, 255 - 4), mapOf(check, 3));
    Check.due("of track 7", "0 0 0", check.after("B-A:7,5"));
    Check.due("map", Check.text(3, 28), mapOf(check, 7));
    Check.due("66", "66 3 8", check.after("B-A:3,8"));
    Check.due("66", "66 13 0", check.after("B-A:13,0"));
    check.drive.protect(true);
    Check.due("not stored", "26 7 0", check.after("B-A:3,3"));
    Check.due("65 stores nothing", "65 3 3", check.after("B-A:3,2"));
    check.drive.protect(false);
    check.spoilSum(7, 0);
    Check.due("not loaded", "23 7 0", check.after("B-A:3,3"));
    Check.due("so nothing is TAKEN", Check.text(7, 255 - 4), mapOf(check, 3));
    Check.due("66 is ahead of that", "66 3 8", check.after("B-A:3,8"));
  }

  private static void nextFree() {
    Check check = Check.formatted();
    check.leaveFree(3, 4, 3, 7, 5, 0, 12, 3);
    all(check, "65 3 4", "B-A:1,0", "B-A:2,7", "B-A:3,0", "B-A:3,3");
    all(check, "65 3 7", "B-A:3,5", "B-A:3,6");
    all(check, "65 5 0", "B-A:4,0", "B-A:4,6");
    all(check, "65 12 3", "B-A:5,1", "B-A:11,4", "B-A:12,0", "B-A:12,2");
    all(check, "65 0 0", "B-A:12,4");
    all(check, "0 0 0", "B-A:12,3");
    all(check, "65 0 0", "B-A:12,3", "B-A:12,0", "B-A:5,1");
    check.leaveFree(7, 5, 12, 4);
    all(check, "65 7 5", "B-A:7,0", "B-A:6,6");
    all(check, "65 12 4", "B-A:8,0", "B-A:12,3");
    check.leaveFree(2, 0);
    all(check, "65 2 0", "B-A:1,7");
    all(check, "65 0 0", "B-A:2,1", "B-A:3,0");
    check.poke(7, 0, 4, 1, 0, 1, 0, 0, 128, 9, 128);
    all(check, "65 3 7", "B-A:1,0"); // the byte that tells how many isn't looked at, nor is a bit of no sector
    check.poke(7, 0, 8, 0, 0);
    all(check, "65 0 0", "B-A:1,0");
  }

  private static void freedBlock() {
    Check check = Check.formatted();
    check.command("B-A:1,7");
    Check.due("B-F", "0 0 0", check.after("B-F:1,7"));
    Check.due("map", Check.text(8, 255), mapOf(check, 1));
    Check.due("one that is FREE", "0 0 0", check.after("B-F:1,7"));
    Check.due("map", Check.text(8, 255), mapOf(check, 1));
    Check.due("66", "66 1 8", check.after("B-F:1,8"));
    Check.due("66", "66 0 1", check.after("B-F:0,1"));
    check.drive.protect(true);
    Check.due("stored, also if it is FREE", "26 7 0", check.after("B-F:1,7"));
    check.drive.protect(false);
    check.command("B-A:1,7");
    check.spoilSum(7, 0);
    Check.due("loaded", "23 7 0", check.after("B-F:1,7"));
    Check.due("so nothing is GIVEN BACK", Check.text(7, 127), mapOf(check, 1));
  }

  // ---- M-W, M-R ----

  private static void missingBytes() {
    Check check = new Check();
    all(check, "0 0 0", "M-W", "M-W\5", "M-W\5\1", "M-W\5\1\0", "M-W\5\1\0XYZ", "M-W\5\1\3");
    Check.due("nothing was put", 0, check.drive.memory(0) + check.drive.memory(5) + check.drive.memory(261));
    check.command("M-W" + Check.text(0, 0, 2, 'A', 'B'));
    all(check, "0 0 0", "M-R", "M-R\0", "M-R\0\0", "M-R\0\0\0");
    Check.due("nothing comes", "00,OK,00,00\r", check.read(15, 300));
    check.command("M-W" + Check.text(0, 0, 3, 0xA9, 7, 0));
    Check.due("M-E without an address", "0 0 0", check.after("M-E"));
    Check.due("is done from 0", 7, check.drive.look(8));
    check.command("M-W" + Check.text(64, 0, 3, 0xA9, 8, 0));
    Check.due("M-E without h", "0 0 0", check.after("M-E\100"));
    Check.due("is done from 64", 8, check.drive.look(8));
  }

  private static void addresses() {
    Check check = new Check();
    int[][] rows = {{0, 0, 0}, {255, 7, 2047}, {0, 8, 0}, {1, 8, 1}, {255, 255, 2047}, {0, 128, 0}, {16, 9, 272}};
    for (int i = 0; i < rows.length; i++) {
      check.command("M-W" + Check.text(rows[i][0], rows[i][1], 1, 50 + i));
      Check.due("M-W", 50 + i, check.drive.memory(rows[i][2]));
      check.command("M-R" + Check.text(rows[i][0], rows[i][1], 1));
      Check.due("M-R", Check.text(50 + i), check.read(15, 300));
    }
    check.command("M-W" + Check.text(254, 7, 4, 1, 2, 3, 4));
    Check.due("round", 1, check.drive.memory(2046));
    Check.due("round", 2, check.drive.memory(2047));
    Check.due("round", 3, check.drive.memory(0));
    Check.due("round", 4, check.drive.memory(1));
    check.command("M-R" + Check.text(254, 255, 4));
    Check.due("round", Check.text(1, 2, 3, 4), check.read(15, 300));
    check.command("M-W" + Check.text(0, 2, 1, 0));
    Check.due("M-E", "0 0 0", check.after("M-E" + Check.text(0, 0x7A)));
    Check.due("round", 0x200, check.drive.look(13));
  }

  private static void thoseThatCame() {
    Check check = new Check();
    check.command("M-W" + Check.text(0, 3, 3, 9));
    Check.due("three told, one came", 9, check.drive.memory(768));
    check.command("M-W" + Check.text(0, 3, 255, 1, 2, 3));
    Check.due("255 told, three came", Check.text(1, 2, 3, 0), Check.text(check.drive.memory(768), check.drive.memory(769), check.drive.memory(770),
        check.drive.memory(771)));
    check.command("M-W" + Check.text(0, 4, 1, 8, 7));
    Check.due("one told, two came", Check.text(8, 0), Check.text(check.drive.memory(1024), check.drive.memory(1025)));
    check.command("M-W" + Check.text(0, 2, 34) + "Z".repeat(34));
    Check.due("34", 'Z', check.drive.memory(512 + 33));
    Check.due("none behind it", 0, check.drive.memory(512 + 34));
    // What is missing isn't put as 0.
    check.command("M-W" + Check.text(0, 2, 5) + "XY");
    Check.due("as it was", "XYZ", Check.text(check.drive.memory(512), check.drive.memory(513), check.drive.memory(514)));
  }

  private static void replies() {
    Check check = new Check();
    check.command("M-W" + Check.text(0, 0, 5, 1, 13, 3, 4, 5));
    Check.due("M-R", "0 0 0", check.after("M-R" + Check.text(0, 0, 5)));
    Check.due("part", Check.text(1, 13), check.read(15, 2));
    Check.due("no END", 0, check.drive.look(3));
    Check.due("rest", Check.text(3, 4, 5), check.read(15, 300));
    Check.due("END", 1, check.drive.look(3));
    Check.due("then the STATUS", "00,OK,00,00\r", check.read(15, 300));
    check.command("M-R" + Check.text(0, 0, 1));
    Check.due("one", Check.text(1), check.read(15, 1));
    Check.due("END", 1, check.drive.look(3));
    Check.due("then the STATUS", "00", check.read(15, 2));
    // It is that of then.
    check.command("M-R" + Check.text(0, 0, 2));
    Check.due("two", Check.text(1, 13), check.read(15, 300));
    check.command("M-R" + Check.text(0, 0, 32));
    Check.due("32", Check.text(1, 13, 3, 4, 5) + "\0".repeat(27), check.read(15, 300));
    Check.due("END", 1, check.drive.look(3));
  }

  private static void lost() {
    for (int way = 0; way < 10; way++) {
      Check check = new Check();
      check.command("M-W" + Check.text(0, 0, 3, 1, 2, 3));
      check.open(2, "#");
      check.command("M-R" + Check.text(0, 0, 3));
      check.drive.read(15, 1);
      String want = "00,OK,00,00\r";
      switch (way) {
        case 0: check.open(3, "#"); break;
        case 1: check.drive.close(7); break;
        case 2: check.drive.close(15); break;
        case 3: check.drive.read(2, 1); break;
        case 4: check.command("B-P:2,0"); break;
        case 5: check.drive.read(5, 1); want = "61,FILE NOT OPEN,00,00\r"; break;
        case 6: check.command("X"); want = "31,SYNTAX ERROR,00,00\r"; break;
        case 7: check.command("M-R" + Check.text(2, 0, 1)); want = Check.text(3); break;
        case 8: check.drive.power(); want = "73,RING DOS 1,00,00\r"; break;
        default: // what is refused, and what doesn't use the bus
          check.drive.read(15, 0);
          check.drive.close(16);
          check.drive.open(15, 1);
          check.drive.memory(0);
          check.drive.look(0);
          check.drive.bits(1, 0);
          check.drive.turn(1, 0, 1);
          check.drive.protect(true);
          check.drive.feed(1, 2, 3, 4, 5);
          want = Check.text(2, 3);
          break;
      }
      Check.due("way " + way, want, check.read(15, 300));
    }
  }

  private static void aboveThirtyTwo() {
    Check check = new Check();
    Check.due("33", "32 0 0", check.after("M-R" + Check.text(0, 0, 33)));
    Check.due("nothing comes", "32,SYNTAX ERROR,00,00\r", check.read(15, 300));
    Check.due("255", "32 0 0", check.after("M-R" + Check.text(0, 0, 255)));
    Check.due("32", "0 0 0", check.after("M-R" + Check.text(0, 0, 32)));
    Check.due("32 come", 32, check.drive.read(15, 300));
    Check.due("M-W isn't bound by that", "0 0 0", check.after("M-W" + Check.text(0, 0, 33) + "A".repeat(33)));
    Check.due("the last one", 'A', check.drive.memory(32));
  }
}
