/** Channel 15, sentence by sentence: the STATUS, how it is read, when it is clean, and its words (promises 3 to 6 and 8). */
public final class StatusTest {
  public static void main(String[] args) {
    Check.sentence("read as its lowest two digits, a comma, its words, a comma, two digits, a comma, two digits, byte 13 (the END)",
        StatusTest::spelling);
    Check.sentence("when all of it was read it becomes 0 0 0", StatusTest::allWasRead);
    Check.sentence("another one is read from its begin.", StatusTest::anotherOne);
    Check.sentence("At first, and behind the command UI, it's 73 0 0.", StatusTest::atFirst);
    Check.sentence("It becomes 0 0 0 when something comes to be opened, closed, read (of 0 to 14) or done", StatusTest::becomesClean);
    Check.sentence("and n t s by a fault", StatusTest::byFault);
    Check.sentence("(Track and sector are 0, if nothing else is told.)", StatusTest::nothingElseTold);
    words();
    Check.end();
  }

  private static void words() {
    Check.sentence("0 OK; 1 FILES SCRATCHED", StatusTest::wordsOfNoFault);
    Check.sentence("20 to 24 READ ERROR", StatusTest::wordsOfReadError);
    Check.sentence("25 WRITE ERROR; 26 WRITE PROTECT ON", StatusTest::wordsOfWriteError);
    Check.sentence("28 PROGRAM ERROR; 30 to 34 SYNTAX ERROR", StatusTest::wordsOfSyntax);
    Check.sentence("60 FILE OPEN; 61 FILE NOT OPEN; 62 FILE NOT FOUND; 63 FILE EXISTS; 64 FILE TYPE MISMATCH", StatusTest::wordsOfFiles);
    Check.sentence("65 NO BLOCK; 66 ILLEGAL BLOCK; 70 NO CHANNEL; 71 DIR ERROR; 72 DISK FULL", StatusTest::wordsOfBlocks);
    Check.sentence("73 RING DOS 1; 74 DRIVE NOT READY.", StatusTest::wordsOfDrive);
  }

  private static void spelled(Check check, String want) {
    Check.due("status", want + "\r", check.read(15, 300));
    Check.due("END", 1, check.drive.look(3));
  }

  private static void spelling() {
    Check check = Check.formatted();
    check.command("B-A:7,1");
    spelled(check, "65,NO BLOCK,07,02");
    check.command("B-A:12,6");
    spelled(check, "66,ILLEGAL BLOCK,12,06");
    check.command("B-A:99,10");
    spelled(check, "66,ILLEGAL BLOCK,99,10");
    check.command("B-A:100,255");
    spelled(check, "66,ILLEGAL BLOCK,00,55");
    check.command("S:X");
    spelled(check, "01,FILES SCRATCHED,00,00");
  }

  private static void allWasRead() {
    Check check = new Check();
    Check.due("all but the END", "73,RING DOS 1,00,00", check.read(15, 19));
    Check.due("no END", 0, check.drive.look(3));
    Check.due("it is still there", "73 0 0", check.status());
    Check.due("the END", "\r", check.read(15, 1));
    Check.due("END", 1, check.drive.look(3));
    Check.due("clean", "0 0 0", check.status());
    Check.due("and again", "00,OK,00,00\r", check.read(15, 300));
    Check.due("and again", "00,OK,00,00\r", check.read(15, 12));
    Check.due("clean", "0 0 0", check.status());
    check.command("B-A:66,77");
    check.drive.read(15, 300);
    Check.due("track and sector, too", "0 0 0", check.status());
  }

  private static void anotherOne() {
    Check check = new Check();
    Check.due("part", "73,RI", check.read(15, 5));
    Check.due("part", "NG", check.read(15, 2));
    check.command("X");
    Check.due("another one", "31,SY", check.read(15, 5));
    check.command("N");
    Check.due("another one", "30,SYNTAX ERROR,00,00\r", check.read(15, 300));
    Check.due("the one behind it", "00,OK", check.read(15, 5));
    check.command("X");
    Check.due("another one", "31,SYNTAX ERROR,00,00\r", check.read(15, 300));
  }

  private static void atFirst() {
    Check check = new Check();
    Check.due("at first", "73 0 0", check.status());
    check.command("X");
    Check.due("UI", "73 0 0", check.after("UI"));
    spelled(check, "73,RING DOS 1,00,00");
    check.command("X");
    check.drive.power();
    Check.due("power", "73 0 0", check.status());
  }

  private static void becomesClean() {
    Check check = Check.formatted();
    check.command("B-A:66,77");
    Check.due("opened", "0 0 0", check.afterOpen(2, "#"));
    check.command("B-A:66,77");
    Check.due("closed", "0 0 0", check.afterClose(9));
    check.command("B-A:66,77");
    Check.due("all closed", "0 0 0", check.afterClose(15));
    check.open(2, "#");
    check.command("B-A:66,77");
    Check.due("read", "0 0 0", check.afterRead(2, 1));
    check.command("B-A:66,77");
    Check.due("done by open()", "0 0 0", check.after("B-P:2,3"));
    check.command("B-A:66,77");
    check.write(15, "B-P:2,3");
    Check.due("done by write()", "0 0 0", check.status());
    check.command("B-A:66,77");
    Check.due("written", "0 0 0", check.afterWrite(2, "A"));
    check.command("B-A:66,77");
    Check.due("read of 15", "66", check.read(15, 2));
    Check.due("leaves it", "66 66 77", check.status());
  }

  private static void byFault() {
    Check check = Check.formatted();
    Check.due("open", "62 0 0", check.afterOpen(2, "A"));
    Check.due("read", "61 0 0", check.afterRead(2, 1));
    check.command("X");
    Check.due("write", "61 0 0", check.afterWrite(2, "A"));
    check.open(2, "A,W");
    check.drive.protect(true);
    Check.due("close", "26 6 0", check.afterClose(2));
    Check.due("command", "26 7 0", check.after("B-F:1,1"));
  }

  private static void nothingElseTold() {
    Check check = Check.formatted();
    String[] texts = {"X", "N", "N:*", "R:A=B", "B-P:3,0", "X".repeat(41)};
    String[] want = {"31 0 0", "30 0 0", "33 0 0", "62 0 0", "70 0 0", "32 0 0"};
    for (int i = 0; i < texts.length; i++) {
      check.command("B-A:66,77");
      Check.due(texts[i], want[i], check.after(texts[i]));
    }
    String[] opens = {"", "A", "A*,W", "##", "A".repeat(41)};
    String[] wantOpens = {"34 0 0", "62 0 0", "33 0 0", "30 0 0", "32 0 0"};
    for (int i = 0; i < opens.length; i++) {
      check.command("B-A:66,77");
      Check.due(opens[i], wantOpens[i], check.afterOpen(3, opens[i]));
    }
    check.open(2, "A,W");
    check.command("B-A:66,77");
    Check.due("60", "60 0 0", check.afterOpen(3, "A"));
    check.command("B-A:66,77");
    Check.due("60 of W", "60 0 0", check.afterOpen(3, "@A,W"));
    check.command("B-A:66,77");
    Check.due("63", "63 0 0", check.afterOpen(3, "A,W"));
    check.drive.close(2);
    check.command("B-A:66,77");
    Check.due("64", "64 0 0", check.afterOpen(3, "A,P"));
    check.command("B-A:66,77");
    Check.due("61", "61 0 0", check.afterRead(3, 1));
    for (int c = 4; c < 7; c++) {
      check.open(c, "#");
    }
    check.command("B-A:66,77");
    Check.due("70", "70 0 0", check.afterOpen(3, "#"));
    check.command("B-A:66,77");
    Check.due("UI", "73 0 0", check.after("UI"));
  }

  private static void wordsOfNoFault() {
    Check check = Check.formatted();
    spelled(check, "00,OK,00,00");
    check.file("A", "");
    check.file("AB", "");
    check.command("S:A*");
    spelled(check, "01,FILES SCRATCHED,02,00");
  }

  private static void wordsOfReadError() {
    Check check = Check.formatted();
    check.open(2, "#");
    check.spoil(12, 0);
    check.command("U1:2,12,0");
    spelled(check, "20,READ ERROR,12,00");
    check.drive.turn(12, Bits.dataAt(1) + 6, 1 << 31);
    check.command("U1:2,12,1");
    spelled(check, "22,READ ERROR,12,01");
    check.spoilSum(12, 2);
    check.command("U1:2,12,2");
    spelled(check, "23,READ ERROR,12,02");
    check.drive.turn(12, Bits.dataAt(3) + 10, 0x50000000);
    check.command("U1:2,12,3");
    spelled(check, "24,READ ERROR,12,03");
    check = new Check();
    Bits.turn(check.drive, 7, 0, Bits.ones(10) + Bits.header(7, 0, 'A', 'B'));
    check.open(2, "#");
    check.command("U1:2,11,4");
    spelled(check, "21,READ ERROR,11,04");
  }

  private static void wordsOfWriteError() {
    Check check = Check.formatted();
    check.open(2, "#");
    check.spoilWriting(12, 4);
    check.command("U2:2,12,4");
    spelled(check, "25,WRITE ERROR,12,04");
    check.drive.protect(true);
    check.command("U2:2,12,4");
    spelled(check, "26,WRITE PROTECT ON,12,04");
  }

  private static void wordsOfSyntax() {
    Check check = Check.formatted();
    check.command("M-W" + Check.text(0, 0, 1, 2));
    check.command("M-E");
    spelled(check, "28,PROGRAM ERROR,01,00");
    check.command("N");
    spelled(check, "30,SYNTAX ERROR,00,00");
    check.command("X");
    spelled(check, "31,SYNTAX ERROR,00,00");
    check.command("X".repeat(41));
    spelled(check, "32,SYNTAX ERROR,00,00");
    check.command("N:*");
    spelled(check, "33,SYNTAX ERROR,00,00");
    check.open(2, "");
    spelled(check, "34,SYNTAX ERROR,00,00");
  }

  private static void wordsOfFiles() {
    Check check = Check.formatted();
    check.open(2, "A,W");
    check.open(3, "A");
    spelled(check, "60,FILE OPEN,00,00");
    check.drive.read(2, 1);
    spelled(check, "61,FILE NOT OPEN,00,00");
    check.open(3, "B");
    spelled(check, "62,FILE NOT FOUND,00,00");
    check.open(3, "A,W");
    spelled(check, "63,FILE EXISTS,00,00");
    check.drive.close(2);
    check.open(3, "A,P,R");
    spelled(check, "64,FILE TYPE MISMATCH,00,00");
  }

  private static void wordsOfBlocks() {
    Check check = Check.formatted();
    check.command("B-A:7,0");
    spelled(check, "65,NO BLOCK,07,02");
    check.command("B-A:7,6");
    spelled(check, "66,ILLEGAL BLOCK,07,06");
    check.command("B-P:2,0");
    spelled(check, "70,NO CHANNEL,00,00");
    check.poke(7, 1, 0, 13, 14);
    check.open(3, "A");
    spelled(check, "71,DIR ERROR,13,14");
    check = Check.formatted();
    check.leaveFree();
    check.open(3, "A,W");
    spelled(check, "72,DISK FULL,00,00");
  }

  private static void wordsOfDrive() {
    Check check = new Check();
    spelled(check, "73,RING DOS 1,00,00");
    check.command("I");
    spelled(check, "74,DRIVE NOT READY,07,00");
  }
}
