import java.util.Random;

/** Makes texts of lands: most without a fault, some with one somewhere. */
final class LandMaker {
    private static final String[] SPOILS = {";", ":", "+", "-", "*", "(", ")", "[", "]", "=", "<", ">", " 7 ", " 10 ",
        " 100 ", " 1000 ", "?", "A", "\t", "\u00e9", " beck ", " river ", " land ", " likes ", " takes ", " flow ",
        " mark ", " dry ", " to ", " room ", " name ", " bears ", " if ", " then ", " else ", " end ", " not ", " and ",
        " or ", " gifts ", " wet ", "x", "\n", "0"};
    private static final String[] NAMES = {"beck", "flow", "mark", "river", "name", "gifts"};

    private final Random random;

    LandMaker(Random random) {
        this.random = random;
    }

    private int upTo(int most) {
        return random.nextInt(most + 1);
    }

    String make(int becksMost, int riversMost) {
        StringBuilder s = new StringBuilder("land;");
        int becks = upTo(3) == 0 ? upTo(becksMost) : becksMost - upTo(Math.min(1, becksMost));
        int rivers = upTo(3) == 0 ? upTo(riversMost) : riversMost - upTo(Math.min(1, riversMost));
        int[] free = new int[rivers];
        int wide = upTo(5) == 0 ? 6 : 1 + upTo(1);
        int bears = upTo(2) == 0 ? 99 : 14;
        boolean dry = upTo(1) == 0;
        for (int r = 0; r < rivers; r++) {
            int room = upTo(8) == 0 ? 0 : 1 + upTo(wide - 1);
            free[r] = room;
            s.append("river room ").append(room);
            if (upTo(3) > 0) {
                s.append(" name ").append(upTo(9));
            }
            if (upTo(2) > 0) {
                s.append(upTo(5) == 0 ? " bears 3" : "").append(" bears ").append(upTo(bears));
            }
            s.append(upTo(9) == 0 ? " ;\n" : ";");
        }
        for (int b = 0; b < becks; b++) {
            makeBeck(s, free, dry);
        }
        makeLaws(s);
        if (upTo(6) == 0 && rivers < riversMost) {
            s.append("river room 2;");
        }
        return s.toString();
    }

    /** Often all would and orders are mixed, or what becks like is what rivers don't: then several choices hold. */
    private void makeLaws(StringBuilder s) {
        if (upTo(2) > 0) {
            String worth = upTo(3) == 0 ? table(4 + upTo(4)) : form();
            String base = upTo(2) == 0 ? "20" : "99*999";
            s.append("likes:").append(base).append("+").append(worth);
            s.append(upTo(2) == 0 ? "+gifts*" + upTo(99) : "").append(";takes:").append(base);
            s.append("-(").append(upTo(1) == 0 ? worth : form());
            s.append(upTo(2) == 0 ? "-gifts*" + upTo(99) : "").append(");");
            return;
        }
        if (upTo(12) > 0) {
            s.append("likes:").append(law()).append(';');
        }
        if (upTo(12) > 0) {
            s.append("takes:").append(law()).append(';');
        }
    }

    private String form() {
        return "(beck*" + upTo(15) + "+river*" + upTo(15) + "-" + upTo(40) + ")*(" + upTo(30) + "-beck*" + upTo(9)
            + "+river*" + upTo(9) + "-mark*" + upTo(3) + "+name*" + upTo(3) + ")*(" + upTo(30) + "+beck*" + upTo(9)
            + "-river*" + upTo(15) + "-flow*" + upTo(3) + ")";
    }

    private void makeBeck(StringBuilder s, int[] free, boolean dry) {
        s.append("beck flow ").append(upTo(9));
        if (upTo(3) > 0) {
            s.append(" mark ").append(upTo(9));
        }
        if (dry && upTo(1) == 0) {
            s.append(" dry ").append(upTo(10));
        }
        if (free.length > 0 && upTo(1) == 0) {
            int r = random.nextInt(free.length);
            if (free[r] > 0) {
                free[r]--;
                s.append(upTo(4) == 0 ? " to " + r : "").append(" to ").append(r);
            }
        }
        s.append(';');
    }

    private String law() {
        switch (upTo(9)) {
            case 0: return sum(0);
            case 1: return "9-(mark-name)*(mark-name)+gifts";
            case 2: return "(mark-name)*(mark-name)+1";
            case 3: return "(beck*" + upTo(40) + "+river*" + upTo(40) + "-" + upTo(200) + ")*(" + upTo(90)
                + "-beck*" + upTo(30) + "+river*" + upTo(40) + ")+" + upTo(999);
            case 4: return "10-flow+gifts*" + upTo(4);
            case 5: return "flow+gifts*" + upTo(4);
            case 6: return table(1 + upTo(8));
            case 7: return table(1 + upTo(8)) + "+gifts*" + upTo(4);
            case 8: return "if " + truth(1) + " then " + sum(1) + " else " + table(1 + upTo(5)) + " end";
            default: return "(mark*" + upTo(20) + "-name*" + upTo(20) + "+" + upTo(9) + ")*(beck*" + upTo(9)
                + "-river*" + upTo(20) + ")+" + upTo(500);
        }
    }

    /** A worth told for some twos, another one for all others. */
    private String table(int entries) {
        StringBuilder s = new StringBuilder().append(upTo(5));
        for (int i = 0; i < entries; i++) {
            s.append("+if beck=").append(upTo(5)).append(" and river=").append(upTo(3)).append(" then ")
                .append(upTo(9)).append(" else 0 end");
        }
        return s.toString();
    }

    private String sum(int depth) {
        StringBuilder s = new StringBuilder(term(depth));
        while (upTo(2) == 0) {
            s.append(upTo(1) == 0 ? "+" : " - ").append(term(depth));
        }
        return s.toString();
    }

    private String term(int depth) {
        StringBuilder s = new StringBuilder(atom(depth));
        while (upTo(3) == 0) {
            s.append("*").append(atom(depth));
        }
        return s.toString();
    }

    private String atom(int depth) {
        int kind = upTo(9);
        if (kind == 0 && depth < 6) {
            return "(" + sum(depth + 1) + ")";
        }
        if (kind == 1 && depth < 6) {
            return "if " + truth(depth + 1) + " then " + sum(depth + 1) + " else " + sum(depth + 1) + " end";
        }
        if (kind < 6) {
            return " " + NAMES[upTo(5)] + " ";
        }
        return " " + upTo(upTo(3) == 0 ? 999 : 9) + " ";
    }

    private String truth(int depth) {
        StringBuilder s = new StringBuilder(unit(depth));
        while (upTo(2) == 0) {
            s.append(upTo(1) == 0 ? " or " : " and ").append(unit(depth));
        }
        return s.toString();
    }

    private String unit(int depth) {
        int kind = upTo(6);
        if (kind == 0 && depth < 6) {
            return "not " + unit(depth + 1);
        }
        if (kind == 1 && depth < 6) {
            return "[" + truth(depth + 1) + "]";
        }
        return sum(depth) + "=<>".charAt(upTo(2)) + sum(depth);
    }

    /** The same text with something put in, taken out or put in another's place. */
    String spoil(String text) {
        StringBuilder s = new StringBuilder(text);
        int many = 1 + (upTo(3) == 0 ? upTo(3) : 0);
        for (int i = 0; i < many && s.length() > 0; i++) {
            int at = random.nextInt(s.length());
            int end = Math.min(s.length(), at + upTo(6));
            switch (upTo(12) == 0 ? 2 : new int[] {0, 1, 3}[upTo(2)]) {
                case 0:
                    s.delete(at, end);
                    break;
                case 1:
                    s.replace(at, end, SPOILS[upTo(SPOILS.length - 1)]);
                    break;
                case 2:
                    s.setLength(at);
                    break;
                default:
                    s.insert(at, SPOILS[upTo(SPOILS.length - 1)]);
                    break;
            }
        }
        return s.toString();
    }

    /** Too many of one kind, or a number that may be out of its bounds. */
    String overdone() {
        String[] opens = {"(", "if ", "if not ", "if [", "( ", "if (", "if [ not "};
        StringBuilder s = new StringBuilder("land;");
        int many = upTo(8);
        switch (upTo(2)) {
            case 0:
                s.append("takes:");
                for (int i = 0; i < many; i++) {
                    s.append(opens[upTo(6)]);
                }
                return s.append("1").toString();
            case 1:
                for (int i = 0; i < many; i++) {
                    s.append(upTo(1) == 0 ? "river room " : "beck flow ").append(upTo(20) == 0 ? upTo(11) : 6).append(';');
                }
                return s.toString();
            default:
                s.append("river room 1;river room ").append(upTo(6)).append(" name ").append(upTo(10)).append(" bears ")
                    .append(upTo(110)).append(';');
                for (int i = 0; i < 3; i++) {
                    s.append("beck flow ").append(upTo(10)).append(" mark ").append(upTo(10)).append(" dry ")
                        .append(upTo(11)).append(" to ").append(upTo(2)).append(" to ").append(upTo(2)).append(';');
                }
                return s.toString();
        }
    }

    /** Words and signs in any order behind a land's first ones. */
    String soup() {
        StringBuilder s = new StringBuilder(upTo(3) == 0 ? "" : "land;");
        String[] heads = {"likes:", "takes:", "beck flow 1 ", "river room 1 ", "likes:if ", ""};
        s.append(heads[upTo(5)]);
        int many = upTo(9);
        for (int i = 0; i < many; i++) {
            s.append(' ').append(SPOILS[upTo(SPOILS.length - 1)]);
        }
        return s.toString();
    }
}
