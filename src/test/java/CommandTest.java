/** Commands of channel 15 (promises 3 and 4): their syntax, what they do, and their faults. */
public final class CommandTest {
  public static void main(String[] args) {
    unknownOnes();
    newDisk();
    scratch();
    scratchFaults();
    rename();
    renameWithFillers();
    initialiseAndRestart();
    numbers();
    blockMoves();
    allocation();
    validate();
    validateFaults();
    Check.end();
  }

  private static void unknownOnes() {
    Check check = Check.formatted();
    for (String text : new String[] {"X", " N:A", "n:A,BC", "I0", "I:", "V0", "VX", "U", "U3:1,1,1", "UI0", "UJ", "B", "B-",
        "B-X:1,1", "B:P", "BP:1,1", "-", ":", "1", "\0", "\u00FF", "$", "#"}) {
      Check.due(text, "31 0 0", check.after(text));
    }
    Check.due("by write", 31, check.write(15, "X"));
  }

  private static void newDisk() {
    Check check = new Check();
    for (String text : new String[] {"N", "N:", "N0:A,BC", "NA,BC", "N:,BC", "N:ABCDEFGHIJK", "N:ABCDEFGHIJK,BC", "N:A,", "N:A,B",
        "N:A,BCD", "N A:B,CD"}) {
      Check.due(text, "30 0 0", check.after(text));
    }
    for (String text : new String[] {"N:*", "N:A?", "N:A*,BC"}) {
      Check.due(text, "33 0 0", check.after(text));
    }
    Check.due("N without an ID on the disk", "74 7 0", check.after("N:NAME"));
    check.open(2, "#");
    Check.due("N", "0 0 0", check.after("N:ABCDEFGHIJ,,:"));
    Check.due("channels are closed", 0, check.drive.look(7));
    Check.due("ID", ',', check.drive.look(5));
    Check.due("ID", ':', check.drive.look(6));
    Check.due("list", "\"ABCDEFGHIJ\" ,:\r72 FREE\r", check.list());
    check.file("F", Check.many(100));
    check.setBlock(5, 5, "X".repeat(64));
    check.open(2, "#");
    Check.due("N alone", "0 0 0", check.after("N:B"));
    Check.due("closes no channel", 1, check.drive.look(7));
    Check.due("list", "\"B         \" ,:\r72 FREE\r", check.list());
    Check.due("blocks stay", "X".repeat(64), check.block(5, 5));
    check.command("UI");
    Check.due("N alone takes the ID", "0 0 0", check.after("N:C"));
    Check.due("ID", ',', check.drive.look(5));
    Check.due("ID on the disk", ",:", check.block(7, 0).substring(38, 40));
    Check.due("N formats anew", "0 0 0", check.after("N:D,EF"));
    Check.due("blocks are empty", "\0".repeat(64), check.block(5, 5));
    Check.due("list", "\"D         \" EF\r72 FREE\r", check.list());
  }

  private static void scratch() {
    Check check = Check.formatted();
    for (String text : new String[] {"S", "S:", "SA", "S0:A", "S:ABCDEFGHIJK", "S A:B"}) {
      Check.due(text, "30 0 0", check.after(text));
    }
    check.file("A", Check.many(200));
    check.file("AB", "1");
    check.file("B", "2");
    check.file("AC", "3");
    Check.due("none", "1 0 0", check.after("S:X"));
    Check.due("free", "65 FREE\r", check.list("$:X").substring(16));
    Check.due("two", "1 2 0", check.after("S:A?"));
    Check.due("list", "\"DISK      \" AB\r4 \"A\" S\r1 \"B\" S\r67 FREE\r", check.list());
    check.file("C", "4");
    Check.due("the first room is used", "\"DISK      \" AB\r4 \"A\" S\r1 \"C\" S\r1 \"B\" S\r66 FREE\r", check.list());
    check.open(2, "A");
    Check.due("all", "1 3 0", check.after("S:*"));
    Check.due("list", "\"DISK      \" AB\r72 FREE\r", check.list());
    Check.due("one that is read goes on", Check.many(200), check.read(2, 300));
    check.open(2, "D,W");
    Check.due("one that is written", "1 1 0", check.after("S:D"));
    Check.due("list", "\"DISK      \" AB\r72 FREE\r", check.list());
    for (int i = 0; i < 12; i++) {
      check.file("F" + i, "");
    }
    Check.due("by three blocks of the directory", "1 12 0", check.after("S:F*"));
    Check.due("spelled", "01,FILES SCRATCHED,12,00\r", check.read(15, 300));
  }

  private static void scratchFaults() {
    // A chain that leaves the disk: the map is stored, the entry stays.
    Check check = Check.formatted();
    check.file("A", Check.many(200));
    check.poke(6, 3, 0, 0x20);
    check.poke(6, 3, 1, 0x21);
    Check.due("71", "71 32 33", check.after("S:A"));
    Check.due("list", "\"DISK      \" AB\r4 \"A\" S\r70 FREE\r", check.list());
    // A chain that goes round: the 73rd.
    check.poke(6, 3, 0, 6);
    check.poke(6, 3, 1, 0);
    Check.due("71", "71 6 0", check.after("S:A"));
    check.poke(6, 3, 1, 3);
    Check.due("71", "71 6 3", check.after("S:A"));
    // The first block isn't legal.
    check.poke(7, 1, 3, 0);
    Check.due("71", "71 0 0", check.after("S:A"));
    // A fault of the chain goes ahead of one of storing.
    check.drive.protect(true);
    Check.due("71", "71 0 0", check.after("S:A"));
    check.drive.protect(false);
    check.poke(7, 1, 3, 6);
    check.poke(6, 3, 0, 0);
    check.drive.protect(true);
    Check.due("26", "26 7 0", check.after("S:A"));
    check.drive.protect(false);
    // A block of the chain can't be read: it was given back ahead of that.
    check = Check.formatted();
    check.file("A", Check.many(200));
    check.drive.turn(6, 3 * 122 * 8 + 40, 1 << 31);
    Check.due("20", "20 6 3", check.after("S:A"));
    Check.due("list", "\"DISK      \" AB\r4 \"A\" S\r70 FREE\r", check.list());
    // The map can't be loaded.
    check.drive.turn(7, 40, 1 << 31);
    Check.due("20", "20 7 0", check.after("S:A"));
    // One that is gone again when another one has a fault.
    check = Check.formatted();
    check.file("A", "1");
    check.file("B", "2");
    check.poke(7, 1, 19, 99);
    Check.due("71", "71 99 1", check.after("S:*"));
    Check.due("list", "\"DISK      \" AB\r1 \"B\" S\r71 FREE\r", check.list());
    // The directory's chain leaves the disk: wanted only where the search goes on.
    check = Check.formatted();
    check.file("A", "1");
    check.poke(7, 1, 0, 7);
    check.poke(7, 1, 1, 6);
    Check.due("found ahead of it", "0 0 0", check.afterOpen(2, "A"));
    Check.due("not found", "71 7 6", check.afterOpen(2, "B"));
    Check.due("S", "71 7 6", check.after("S:A"));
    // A directory whose chain goes round is looked at up to its sixth block.
    check = Check.formatted();
    check.file("A", "1");
    check.poke(7, 1, 0, 7);
    check.poke(7, 1, 1, 1);
    Check.due("not found", "62 0 0", check.afterOpen(2, "B"));
    Check.due("six times", "\"DISK      \" AB\r" + "1 \"A\" S\r".repeat(6) + "71 FREE\r", check.list());
    Check.due("S", "1 1 0", check.after("S:A"));
  }

  private static void rename() {
    Check check = Check.formatted();
    check.file("A", "1");
    check.file("B", "2");
    for (String text : new String[] {"R", "R:", "R:A", "R:=A", "R:A=", "R:=", "RA=B", "R0:A=B", "R:ABCDEFGHIJK=A",
        "R:A=ABCDEFGHIJK"}) {
      Check.due(text, "30 0 0", check.after(text));
    }
    for (String text : new String[] {"R:C=?", "R:C*=A", "R:*=*"}) {
      Check.due(text, "33 0 0", check.after(text));
    }
    Check.due("63", "63 0 0", check.after("R:A=B"));
    Check.due("63 of itself", "63 0 0", check.after("R:A=A"));
    Check.due("63 is ahead of 62", "63 0 0", check.after("R:A=X"));
    Check.due("62", "62 0 0", check.after("R:C=X"));
    Check.due("done", "0 0 0", check.after("R:ABCDEFGHIJ=A"));
    Check.due("done", "0 0 0", check.after("R:C=B"));
    Check.due("list", "\"DISK      \" AB\r1 \"ABCDEFGHIJ\" S\r1 \"C\" S\r70 FREE\r", check.list());
    Check.due("= in OLD", "62 0 0", check.after("R:X=C=D"));
    check.drive.protect(true);
    Check.due("26", "26 7 1", check.after("R:X=C"));
    Check.due("62 wants no writing", "62 0 0", check.after("R:X=Y"));
  }

  /** R asks for the same ten bytes, where to FIT asks for those up to a 160. */
  private static void renameWithFillers() {
    Check check = Check.formatted();
    check.file("A\u00A0B", "1");
    Check.due("none has OLD", "62 0 0", check.after("R:C=A"));
    Check.due("none has NEW", "62 0 0", check.after("R:A=C"));
    Check.due("one has NEW", "63 0 0", check.after("R:A\u00A0B=C"));
    check.file("A", "22");
    Check.due("the second one has OLD", "0 0 0", check.after("R:D=A\u00A0\u00A0"));
    Check.due("first", "A\u00A0B", check.block(7, 1).substring(5, 8));
    Check.due("second", "D\u00A0\u00A0", check.block(7, 1).substring(21, 24));
    Check.due("NEW fits, but is another", "0 0 0", check.after("R:A=D"));
    Check.due("OLD with a filler", "0 0 0", check.after("R:E=A\u00A0B"));
    Check.due("first", "E" + "\u00A0".repeat(9), check.block(7, 1).substring(5, 15));
    Check.due("S asks for FIT", "1 2 0", check.after("S:?"));
    check.file("B", "1");
    Check.due("a name that is gone is free", "0 0 0", check.after("R:A=B"));
  }

  private static void initialiseAndRestart() {
    Check check = Check.formatted();
    check.open(2, "A,W");
    check.open(3, "#");
    Check.due("I", "0 0 0", check.after("I"));
    Check.due("channels stay", 2, check.drive.look(7));
    check.command("M-W" + Check.text(5, 0, 1, 99));
    Check.due("UI", "73 0 0", check.after("UI"));
    Check.due("channels are closed", 0, check.drive.look(7));
    Check.due("no ID", RingDrive.NONE, check.drive.look(5));
    Check.due("no ID", RingDrive.NONE, check.drive.look(6));
    Check.due("memory stays", 99, check.drive.memory(5));
    Check.due("without more", "\"DISK      \" AB\r0 \"A\" S*\r71 FREE\r", check.list());
    Check.due("ID", 'B', check.drive.look(6));
    check.drive.turn(7, 40, 1 << 31);
    Check.due("I takes the second header's ID", "20 7 0", check.after("I"));
    Check.due("ID", 'A', check.drive.look(5));
    for (int sector = 1; sector < 6; sector++) {
      check.drive.turn(7, sector * 122 * 8 + 40, 1 << 31);
    }
    Check.due("an ID in hand serves", "20 7 0", check.after("B-F:1,1"));
    Check.due("I", "74 7 0", check.after("I"));
    Check.due("no ID", RingDrive.NONE, check.drive.look(5));
    Check.due("READ takes it", "74 7 0", check.after("B-F:1,1"));
  }

  private static void numbers() {
    Check check = Check.formatted();
    check.open(2, "#");
    for (String text : new String[] {"U1", "U1 2 1 0", "U1:", "U1:2", "U1:2,1", "U1:2,1,", "U1:2,1,0000", "U1:0002,1,0", "U1:2,256,0",
        "U1:2,1,999", "U1:,,", "B-P", "B-P:2", "B-P:2,", "B-P:2,256", "B-A", "B-A:1", "B-F:1", "B-F", "B-A 1,1", "U2:2;1",
        "U1 2,1:0"}) {
      Check.due(text, "30 0 0", check.after(text));
    }
    for (String text : new String[] {"U1:2,1,0", "U1:002,001,000", "U1: 2 1 0", "U1:2x1y0z", "U1:2,1,0,9,9", "U1 9,9,9:2,1,0",
        "U1:-2,-1,-0", "U1:::2:1:0", "U1X:2,1,0", "U1:2,1,0 99999", "B-P:2,255", "B-P:2,063X"}) {
      Check.due(text, "0 0 0", check.after(text));
    }
    Check.due("30 is ahead of 70", "30 0 0", check.after("U1:3,1"));
    Check.due("70 is ahead of 66", "70 0 0", check.after("U1:3,99,0"));
    Check.due("66", "66 255 255", check.after("U1:2,255,255"));
  }

  private static void blockMoves() {
    Check check = Check.formatted();
    for (int c : new int[] {0, 2, 14, 15, 16, 255}) {
      Check.due("70", "70 0 0", check.after("U1:" + c + ",1,0"));
      Check.due("70", "70 0 0", check.after("U2:" + c + ",1,0"));
      Check.due("70", "70 0 0", check.after("B-P:" + c + ",1"));
    }
    check.open(2, "$");
    Check.due("70", "70 0 0", check.after("U1:2,1,0"));
    check.open(2, "#");
    int[][] illegal = {{0, 0}, {13, 0}, {1, 8}, {3, 8}, {4, 7}, {6, 7}, {7, 6}, {9, 6}, {10, 5}, {12, 5}};
    for (int[] one : illegal) {
      String block = one[0] + "," + one[1];
      String want = "66 " + one[0] + " " + one[1];
      Check.due("66", want, check.after("U1:2," + block));
      Check.due("66", want, check.after("U2:2," + block));
      Check.due("66", want, check.after("B-A:" + block));
      Check.due("66", want, check.after("B-F:" + block));
    }
    int[] sectors = {8, 8, 8, 7, 7, 7, 6, 6, 6, 5, 5, 5};
    for (int t = 1; t <= 12; t++) {
      int s = sectors[t - 1] - 1;
      check.setBlock(t, s, "T" + t + Check.many(60));
      Check.due("block " + t, "T" + t, check.block(t, s).substring(0, t < 10 ? 2 : 3));
    }
  }

  private static void allocation() {
    Check check = Check.formatted();
    Check.due("B-A", "0 0 0", check.after("B-A:3,2"));
    Check.due("map", Check.text(7, 255 - 4), check.block(7, 0).substring(8, 10));
    Check.due("B-A again", "65 3 3", check.after("B-A:3,2"));
    Check.due("B-A", "0 0 0", check.after("B-A:3,7"));
    Check.due("B-A", "65 4 0", check.after("B-A:3,7"));
    Check.due("B-A of 7, 0", "65 7 2", check.after("B-A:7,0"));
    Check.due("B-A", "0 0 0", check.after("B-A:12,4"));
    Check.due("B-A, none behind it", "65 0 0", check.after("B-A:12,4"));
    Check.due("B-F", "0 0 0", check.after("B-F:3,2"));
    Check.due("B-F again", "0 0 0", check.after("B-F:3,2"));
    Check.due("map", Check.text(7, 127), check.block(7, 0).substring(8, 10));
    // The byte that tells how many goes round 256, and isn't looked at by B-A.
    check.poke(7, 0, 4, 0);
    Check.due("B-A", "0 0 0", check.after("B-A:1,0"));
    Check.due("map", Check.text(255, 254), check.block(7, 0).substring(4, 6));
    Check.due("B-F", "0 0 0", check.after("B-F:1,0"));
    Check.due("map", Check.text(0, 255), check.block(7, 0).substring(4, 6));
    // Bits of sectors that there are not count for nothing.
    check = Check.formatted();
    check.poke(7, 0, 27, 0xE0);
    Check.due("B-A", "65 0 0", check.after("B-A:12,0"));
    check.poke(7, 0, 15, 0x80);
    check.open(2, "A,W");
    Check.due("the next track is taken", Check.text(8, 0), check.block(7, 1).substring(3, 5));
    check.drive.protect(true);
    Check.due("26", "26 7 0", check.after("B-F:3,3"));
    Check.due("65 wants no writing", "65 8 1", check.after("B-A:8,0"));
  }

  private static void validate() {
    Check check = Check.formatted();
    check.file("A", Check.many(200));
    check.open(3, "B,W");
    check.write(3, Check.many(100));
    for (int i = 0; i < 4; i++) {
      check.command("B-A:1," + i);
    }
    check.file("C", "");
    check.poke(7, 0, 3, 77);
    check.poke(7, 0, 63, 88);
    check.command("B-F:6,0");
    Check.due("V", "0 0 0", check.after("V"));
    Check.due("list", "\"DISK      \" AB\r4 \"A\" S\r1 \"C\" S\r67 FREE\r", check.list());
    String map = check.block(7, 0);
    Check.due("what else the map has stays", Check.text(77), map.substring(3, 4));
    Check.due("what else the map has stays", Check.text(88), map.substring(63));
    Check.due("track 1", Check.text(8, 255), map.substring(4, 6));
    Check.due("track 7", Check.text(4, 60), map.substring(16, 18));
    Check.due("A's blocks", Check.text(2), map.substring(14, 15));
    for (int i = 0; i < 4; i++) {
      check.file("F" + i, "");
    }
    Check.due("V", "0 0 0", check.after("V"));
    Check.due("track 7 with two blocks of the directory", Check.text(3, 56), check.block(7, 0).substring(16, 18));
    Check.due("free", "63 FREE\r", check.list("$:X").substring(16));
    check.drive.protect(true);
    Check.due("26", "26 7 0", check.after("V"));
    check.drive.protect(false);
  }

  private static void validateFaults() {
    Check check = Check.formatted();
    check.file("A", Check.many(200));
    check.file("B", "1");
    check.open(2, "W,W");
    check.command("B-A:1,1");
    check.poke(7, 1, 19, 6);
    check.poke(7, 1, 20, 3);
    Check.due("a block of two chains", "71 6 3", check.after("V"));
    Check.due("the map isn't stored", Check.text(7, 255 - 2), check.block(7, 0).substring(4, 6));
    Check.due("behind it nothing is done", "\"DISK      \" AB\r4 \"A\" S\r1 \"B\" S\r0 \"W\" S*\r65 FREE\r", check.list());
    check.poke(7, 1, 19, 7);
    check.poke(7, 1, 20, 1);
    Check.due("a block of the directory", "71 7 1", check.after("V"));
    check.poke(7, 1, 20, 0);
    Check.due("the map", "71 7 0", check.after("V"));
    check.poke(7, 1, 20, 6);
    Check.due("not legal", "71 7 6", check.after("V"));
    check.poke(7, 1, 18, 3);
    Check.due("one that isn't closed goes", "0 0 0", check.after("V"));
    Check.due("list", "\"DISK      \" AB\r4 \"A\" S\r68 FREE\r", check.list());
    check.poke(6, 0, 0, 6);
    check.poke(6, 0, 1, 0);
    Check.due("a chain that goes round", "71 6 0", check.after("V"));
    check.poke(7, 1, 0, 12);
    check.poke(7, 1, 1, 5);
    Check.due("the directory's next one", "71 12 5", check.after("V"));
    check.poke(7, 1, 0, 7);
    check.poke(7, 1, 1, 1);
    check.poke(7, 1, 2, 0);
    Check.due("a directory that goes round", "0 0 0", check.after("V"));
    Check.due("track 7", Check.text(4, 60), check.block(7, 0).substring(16, 18));
    check.drive.turn(7, 40, 1 << 31);
    Check.due("no map", "20 7 0", check.after("V"));
  }
}
