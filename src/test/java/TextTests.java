/** Promises 4 to 6: which texts are right, and where a wrong one is first wrong (at the sign | , which is left out). */
public final class TextTests {
    private static final Class<IllegalArgumentException> ILLEGAL = IllegalArgumentException.class;

    public static void main(String[] args) {
        rightKinds();
        wrongBeginnings();
        wrongLines();
        wrongPatterns();
        wrongEnds();
        tooManyLines();
        rightNets();
        wrongNets();
        wrongTextsLeaveAll();
        otherBytes();
        wordsLetterByLetter();
        longTexts();
        Checks.end("TextTests");
    }

    private static void rightKind(String text, int nets, int ruleLines, int endLines) {
        OrderlyNets x = new OrderlyNets();
        Checks.due("kind of <" + text + ">", Checks.kind(x, text), nets);
        Checks.due("fault of <" + text + ">", x.fault(), -1);
        Checks.due("rules of <" + text + ">", x.count(2), ruleLines);
        Checks.due("ends of <" + text + ">", x.count(3), endLines);
    }

    private static void wrongKind(String marked) {
        OrderlyNets x = Checks.ofKind("nodes 2 dark; most 0; end least 0");
        int at = marked.indexOf('|');
        Checks.tape(x, marked.replace("|", ""));
        Checks.thrown("kind of <" + marked + ">", ILLEGAL, () -> x.kind());
        Checks.due("fault of <" + marked + ">", x.fault(), at);
        Checks.due("the kind ahead of <" + marked + "> stays", x.level(2), 3);
        Checks.due("the tape of <" + marked + "> is used up", x.end(1) ? 1 : 0, 0);
    }

    private static void rightKinds() {
        rightKind("nodes 1", 1, 0, 0);
        rightKind("nodes 06", 156, 0, 0);
        rightKind("nodes6", 156, 0, 0);
        rightKind("   nodes   3   ", 4, 0, 0);
        rightKind("nodes 5 dark", 544, 0, 0);
        rightKind("nodes5dark", 544, 0, 0);
        rightKind("nodes 3;most 5", 4, 1, 0);
        rightKind("nodes 3 ; most 0", 1, 1, 0);
        rightKind("nodes3;most1;end joined", 2, 1, 1);
        rightKind("nodes 4;free 3;free 3;free 4", 6, 3, 0);
        rightKind("nodes 4;free 04", 8, 1, 0);
        rightKind("nodes 6;free 6", 108, 1, 0);
        rightKind("nodes 3 dark;unlike", 8, 1, 0);
        rightKind("nodes 4;even;forest", 6, 2, 0);
        rightKind("nodes 3;without 2;without 2:0 1", 0, 2, 0);
        rightKind("nodes 3;without 3 : 1 0 , 2 1", 3, 1, 0);
        rightKind("nodes 4;without 4:0 1,0 2,0 3,1 2,1 3,2 3", 10, 1, 0);
        rightKind("nodes 4;end edges 0 to 15", 11, 0, 1);
        rightKind("nodes 4;end edges 3to3", 11, 0, 1);
        rightKind("nodes 4;end edges 15 to 15;end least 5;end joined", 11, 0, 3);
        rightKind("nodes 2;end least 0;most 0;end joined", 1, 1, 2);
    }

    private static void wrongBeginnings() {
        wrongKind("|");
        wrongKind("   |");
        wrongKind("|node 3");
        wrongKind("|nodesx 3");
        wrongKind("|Nodes 3");
        wrongKind("|nodesz 3");
        wrongKind("|nodesa 3");
        wrongKind("nodes 3 |darkz");
        wrongKind("nodes 3 |zdark");
        wrongKind("nodes 3 |adark");
        wrongKind(" |3");
        wrongKind("|;");
        wrongKind("nodes|");
        wrongKind("nodes  |");
        wrongKind("nodes |0");
        wrongKind("nodes |7");
        wrongKind("nodes |00");
        wrongKind("nodes |003");
        wrongKind("nodes |100");
        wrongKind("nodes |-1");
        wrongKind("nodes |dark");
        wrongKind("nodes |;");
        wrongKind("nodes 3 |4");
        wrongKind("nodes 3 |x");
        wrongKind("nodes 3 |darker");
        wrongKind("nodes 3 |nodes 3");
        wrongKind("nodes 3 dark |dark");
        wrongKind("nodes 3 |, most 2");
        wrongKind("nodes 3|: most 2");
        wrongKind("nodes 6 |dark");
        wrongKind("nodes 6|dark");
        wrongKind("nodes 3 |most 2");
    }

    private static void wrongLines() {
        wrongKind("nodes 3;|");
        wrongKind("nodes 3;  |");
        wrongKind("nodes 3;|;");
        wrongKind("nodes 3;|;most 2");
        wrongKind("nodes 3;most 2;|");
        wrongKind("nodes 3;|2");
        wrongKind("nodes 3;|foo");
        wrongKind("nodes 3;|joined");
        wrongKind("nodes 3; |mosts 2");
        wrongKind("nodes 3;most|");
        wrongKind("nodes 3;most |x");
        wrongKind("nodes 3;most |6");
        wrongKind("nodes 3;most |005");
        wrongKind("nodes 3;most 2 |3");
        wrongKind("nodes 3;most 2;|most 2");
        wrongKind("nodes 3;most 2;|most 7");
        wrongKind("nodes 3;free|");
        wrongKind("nodes 3;free |2");
        wrongKind("nodes 3;free |7");
        wrongKind("nodes 3;free 3 |, 4");
        wrongKind("nodes 3;even |2");
        wrongKind("nodes 3;even;|even");
        wrongKind("nodes 3;forest;even;|forest");
        wrongKind("nodes 3;|unlike");
        wrongKind("nodes 3 dark;unlike;|unlike");
        wrongKind("nodes 3 dark;unlike |2");
        wrongKind("nodes 3;|dark");
    }

    private static void wrongPatterns() {
        wrongKind("nodes 3;without|");
        wrongKind("nodes 3;without |:");
        wrongKind("nodes 3;without |1");
        wrongKind("nodes 3;without |5");
        wrongKind("nodes 3;without 2:|");
        wrongKind("nodes 3;without 2:|;");
        wrongKind("nodes 3;without 2 |0 1");
        wrongKind("nodes 3;without 2:0|");
        wrongKind("nodes 3;without 2:|2 0");
        wrongKind("nodes 3;without 2:0 |2");
        wrongKind("nodes 3;without 2:0 |,");
        wrongKind("nodes 3;without 2:0 |0");
        wrongKind("nodes 3;without 2:01|");
        wrongKind("nodes 3;without 2:0 1|:");
        wrongKind("nodes 3;without 2:0 1 |0");
        wrongKind("nodes 3;without 2:0 1,|");
        wrongKind("nodes 3;without 2:0 1,0 |1");
        wrongKind("nodes 3;without 2:0 1,1 |0");
        wrongKind("nodes 3;without 3:0 1,1 2,0 2,1 |2");
        wrongKind("nodes 3;without 3:0 1,|;");
        wrongKind("nodes 3;without 2;without 2;|without 2");
        wrongKind("nodes 3;without 2;without 2;|without 9");
    }

    private static void wrongEnds() {
        wrongKind("nodes 3;end|");
        wrongKind("nodes 3;end |;");
        wrongKind("nodes 3;end |foo");
        wrongKind("nodes 3;end |most 2");
        wrongKind("nodes 3;end |3");
        wrongKind("nodes 3;end joined |2");
        wrongKind("nodes 3;end joined;end |joined");
        wrongKind("nodes 3;end edges|");
        wrongKind("nodes 3;end edges |to");
        wrongKind("nodes 3;end edges |16 to 16");
        wrongKind("nodes 3;end edges 3|");
        wrongKind("nodes 3;end edges 3 |3");
        wrongKind("nodes 3;end edges 3 |too 3");
        wrongKind("nodes 3;end edges 3 to|");
        wrongKind("nodes 3;end edges 3 to |2");
        wrongKind("nodes 3;end edges 3 to |16");
        wrongKind("nodes 3;end edges 3 to |003");
        wrongKind("nodes 3;end edges 3 to 4 |5");
        wrongKind("nodes 3;end edges 3 to 4;end |edges 3 to 4");
        wrongKind("nodes 3;end least|");
        wrongKind("nodes 3;end least |6");
        wrongKind("nodes 3;end least 2;end joined;end |least 2");
        wrongKind("nodes 3;|ends joined");
    }

    private static void tooManyLines() {
        StringBuilder lines = new StringBuilder("nodes 3");
        for (int i = 0; i < 14; i++) {
            lines.append(";free 4");
        }
        String fourteen = lines.toString();
        rightKind(fourteen, 4, 14, 0);
        rightKind(fourteen + "  ", 4, 14, 0);
        wrongKind(fourteen + ";|free 4");
        wrongKind(fourteen + "; |even");
        wrongKind(fourteen + ";|end joined");
        wrongKind(fourteen + ";|");
        wrongKind(fourteen + "; |");
        wrongKind(fourteen + ";|;");
        wrongKind(fourteen + "|,");
        wrongKind(fourteen + " |4");
    }

    private static void rightNet(String kind, String text, int number, int form) {
        OrderlyNets x = Checks.ofKind(kind);
        Checks.due("told of <" + text + ">", Checks.told(x, text), number);
        Checks.due("fault of <" + text + ">", x.fault(), -1);
        Checks.due("form of <" + text + ">", x.form(1), form);
    }

    private static void wrongNet(String kind, String marked) {
        OrderlyNets x = Checks.ofKind(kind);
        int at = marked.indexOf('|');
        Checks.told(x, "net 2:0 1");
        Checks.tape(x, marked.replace("|", ""));
        Checks.thrown("told of <" + marked + ">", ILLEGAL, () -> x.told());
        Checks.due("fault of <" + marked + ">", x.fault(), at);
        Checks.due("told ahead of <" + marked + "> stays", x.form(1) * 10 + x.form(0), 12);
        Checks.due("the tape of <" + marked + "> is used up", x.end(1) ? 1 : 0, 0);
    }

    private static void rightNets() {
        rightNet("nodes 1", "net 1", 0, 0);
        rightNet("nodes 3", "  net   1  ", 0, 0);
        rightNet("nodes 3", "net3:0 1", 1, 1);
        rightNet("nodes 3", "net 3 : 0 1 , 02 01 ", 2, 3);
        rightNet("nodes 3;free 3", "net 3:0 1,1 2,2 0", -1, 11);
        rightNet("nodes 3 dark", "net 3 dark 2 0 1", 16, 52);
        rightNet("nodes 3 dark", "net3dark0:1 2", 7, 12);
        rightNet("nodes 3 dark;unlike", "net 2 dark 0 1:0 1", -1, 7);
    }

    private static void wrongNets() {
        wrongNet("nodes 3", "|");
        wrongNet("nodes 3", "|nodes 3");
        wrongNet("nodes 3", "|nets 3");
        wrongNet("nodes 3", "net|");
        wrongNet("nodes 3", "net |0");
        wrongNet("nodes 3", "net |4");
        wrongNet("nodes 3", "net |003");
        wrongNet("nodes 3", "net 3 |;");
        wrongNet("nodes 3", "net 3 |dark 0");
        wrongNet("nodes 3", "net 3 |0 1");
        wrongNet("nodes 3 dark", "net 3 dark|");
        wrongNet("nodes 3 dark", "net 3 dark |: 0 1");
        wrongNet("nodes 3 dark", "net 3 dark |3");
        wrongNet("nodes 3 dark", "net 3 dark 0 1 |0");
        wrongNet("nodes 3 dark", "net 3 dark 0 1 2 |1");
        wrongNet("nodes 3 dark", "net 3 dark 0 1 2 |3");
        wrongNet("nodes 3 dark", "net 3 dark 0 |dark");
        wrongNet("nodes 3 dark", "net 3 dark 0 |, 1");
        wrongNet("nodes 3", "net 3:|");
        wrongNet("nodes 3", "net 3:0|");
        wrongNet("nodes 3", "net 3:|3 0");
        wrongNet("nodes 3", "net 3:0 |3");
        wrongNet("nodes 3", "net 3:1 |1");
        wrongNet("nodes 3", "net 3:0 1,|");
        wrongNet("nodes 3", "net 3:0 1,1 |0");
        wrongNet("nodes 3", "net 3:0 1 |1 2");
        wrongNet("nodes 3", "net 3:0 1|:0 2");
        wrongNet("nodes 3", "net 3:0 1|;");
        wrongNet("nodes 3", "net 3:0 1,0 2,1 2,0 |1");
        wrongNet("nodes 2", "net 1:0 |0");
    }

    private static void wrongTextsLeaveAll() {
        OrderlyNets x = Checks.ofKind("nodes 3; free 3; end joined");
        x.start(1, 2, 2, 1);
        x.image();
        Checks.tape(x, "nodes 2 dark; unlike; even; end least 6");
        Checks.thrown("kind", ILLEGAL, () -> x.kind());
        Checks.due("size", x.count(0), 3);
        Checks.due("dark", x.count(1), 0);
        Checks.due("rules", x.count(2), 1);
        Checks.due("ends", x.count(3), 1);
        Checks.due("walkers", x.count(4), 2);
        Checks.due("nets", x.level(3), 3);
        Checks.due("full", x.full(-1), 1);
        Checks.tape(x, "net 3 dark 0");
        Checks.thrown("told", ILLEGAL, () -> x.told());
        Checks.thrown("form", IllegalStateException.class, () -> x.form(1));
        Checks.due("a right text mends fault", Checks.kind(x, "nodes 2") * 10 + x.fault(), 19);
    }

    private static void otherBytes() {
        for (int octet = 0; octet < 256; octet++) {
            char sign = (char) octet;
            OrderlyNets x = new OrderlyNets();
            Checks.tape(x, "nodes 3" + sign);
            if (octet == ' ') {
                Checks.due("a blank behind", x.kind(), 4);
            } else if (octet == ';') {
                Checks.thrown("a line that does not come", ILLEGAL, () -> x.kind());
                Checks.due("fault", x.fault(), 8);
            } else {
                Checks.thrown("byte " + octet, ILLEGAL, () -> x.kind());
                Checks.due("fault of byte " + octet, x.fault(), octet >= '0' && octet <= '9' ? 6 : 7);
            }
        }
    }

    /** A word is one just if all its letters are right, and no more come. */
    private static void wordsLetterByLetter() {
        String[] lines = {
            "|most 2", "|free 3", "|even", "|forest", "|unlike", "|without 2", "|end joined",
            "end |joined", "end |edges 1 to 2", "end edges 1 |to 2", "end |least 1",
        };
        for (String line : lines) {
            int at = line.indexOf('|') + 1;
            int behind = at;
            while (behind < line.length() && line.charAt(behind) != ' ') {
                char other = line.charAt(behind) == 'q' ? 'k' : 'q';
                wrongKind("nodes 3 dark;" + line.substring(0, behind) + other + line.substring(behind + 1));
                behind++;
            }
            wrongKind("nodes 3 dark;" + line.substring(0, behind) + "z" + line.substring(behind));
            wrongKind("nodes 3 dark;" + line.substring(0, behind - 1) + line.substring(behind));
        }
        for (int i = 0; i < 5; i++) {
            wrongKind("|" + "nodes".substring(0, i) + "q" + "nodes".substring(i + 1) + " 3");
        }
        for (int i = 0; i < 4; i++) {
            wrongKind("nodes 3 |" + "dark".substring(0, i) + "q" + "dark".substring(i + 1));
            wrongNet("nodes 3 dark", "net 3 |" + "dark".substring(0, i) + "q" + "dark".substring(i + 1) + " 1");
        }
        for (int i = 0; i < 3; i++) {
            wrongNet("nodes 3", "|" + "net".substring(0, i) + "q" + "net".substring(i + 1) + " 3");
        }
    }

    private static void longTexts() {
        String blanks = " ".repeat(400);
        rightKind(blanks.substring(7) + "nodes 4", 11, 0, 0);
        rightKind("nodes 4" + blanks.substring(7), 11, 0, 0);
        wrongKind(blanks + "|");
        wrongKind("nodes 3;" + blanks.substring(8) + "|");
        wrongKind("nodes" + blanks.substring(6) + "|7");
        StringBuilder all = new StringBuilder("net 6:");
        for (int a = 0; a < 6; a++) {
            for (int b = 0; b < a; b++) {
                all.append(a == 1 ? "" : ",").append(a).append(' ').append(b);
            }
        }
        rightNet("nodes 6", all.toString(), 155, 0b0_01_011_0111_01111_011111);
        wrongNet("nodes 6", all + ",0 |1");
        wrongNet("nodes 6", all + ",|");
        wrongNet("nodes 6", all + ",|6 1");
    }
}
