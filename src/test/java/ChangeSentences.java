/** What the document says of changes of the parts, the flaws, the gap and the slab: promises 36 to 42. */
final class ChangeSentences extends SentenceGroup {
    ChangeSentences(Sentences doc) {
        super(doc);
    }

    @Override
    void tell() {
        addPart();
        addPartRefused();
        dropPart();
        movePart();
        setFlaw();
        setGap();
        turnSlab();
        cutRows();
        cutRowsRefused();
    }

    private void addPart() {
        doc.in("Promise 36: addPart");
        doc.says("Adds a part behind the others;", () -> {
            SlabCutter x = Due.loaded("slab 4 4;verse a;date b;");
            Due.addPart(x, SlabCutter.NAME, "c d");
            due.is("parts", x.property(4), 3);
            due.is("kind", x.part(2, 0), SlabCutter.NAME);
            due.is("first word", x.part(2, 1), 2);
            due.is("slab", Due.slab(x), "a...|b...|c.d.|....");
            x.carve(2);
            Due.addPart(x, SlabCutter.DATE, "e");
            due.is("with carved letters", Due.slab(x), "A...|B...|c.d.|e...");
            Due.addPart(x, SlabCutter.DATE, "f");
            due.is("where there is no room", x.property(5) * 10 + x.property(6), 65);
        });
        doc.says("its words are the tokens of the input buffer, words or numbers of 1 to 12 bytes, one or more.", () -> {
            SlabCutter x = Due.loaded("slab 12 4;");
            Due.addPart(x, SlabCutter.VERSE, "\n slab\n007 a1 ");
            due.is("words", Due.part(x, 0), "slab 007 a 1");
            Due.addPart(x, SlabCutter.VERSE, "abcdefghijkl 123456789012 z");
            due.is("12 bytes", Due.part(x, 1), "abcdefghijkl 123456789012 z");
            Due.addPart(x, SlabCutter.DATE, "q");
            due.is("one, missing", Due.part(x, 2), "[q]");
            SlabCutter y = new SlabCutter();
            Due.addPart(y, SlabCutter.DATE, "a ".repeat(60));
            due.is("60", y.property(5), 60);
        });
        doc.says("- `kind`: NAME, DATE or VERSE", () -> {
            SlabCutter x = Due.loaded("slab 6 4;");
            for (int kind = 0; kind < 3; kind++) {
                Due.addPart(x, kind, "ab");
                due.is("kind", x.part(kind, 0), kind);
            }
            due.is("slab", Due.slab(x), "..ab..|ab....|ab....|......");
        });
        doc.says("Returns the number of the part.", () -> {
            SlabCutter x = new SlabCutter();
            for (int part = 0; part < 10; part++) {
                due.is("part", Due.addPart(x, part % 3, "a"), part);
            }
        });
    }

    private void wrong(SlabCutter x, int kind, String words) {
        Due.type(x, words);
        due.failsArgument("kind " + kind + " of \"" + words + "\"", () -> x.addPart(kind));
        due.failsArgument("empty then: \"" + words + "\"", () -> Due.truncated(x, 1));
    }

    private void addPartRefused() {
        doc.says("Throws `IllegalArgumentException` if kind is out of range,", () -> {
            SlabCutter x = new SlabCutter();
            for (int kind : new int[] {-1, 3, Integer.MIN_VALUE, Integer.MAX_VALUE}) {
                wrong(x, kind, "a");
            }
            due.is("none is added", x.property(4), 0);
        });
        doc.says("the buffer has another token,", () -> {
            SlabCutter x = new SlabCutter();
            for (String words : new String[] {";", "a;", "a,b", "a b -", "aB", "A", "a\t", "\u00e9", "a\0", "a{", "`"}) {
                wrong(x, 0, words);
            }
            SlabCutter y = Due.loaded("slab 24 2;");
            wrong(y, 0, "abcdefghijklm");
            wrong(y, 0, "a 1234567890123");
            // The 500th byte is the 500th token.
            wrong(y, 0, "a1".repeat(249) + "a;");
            due.is("none is added", x.property(4) + y.property(4), 0);
        });
        doc.says("or none,", () -> {
            SlabCutter x = new SlabCutter();
            wrong(x, 0, "");
            wrong(x, 1, " ");
            wrong(x, 2, "\n \n");
            wrong(x, 2, " ".repeat(500));
            due.is("none is added", x.property(4), 0);
        });
        doc.says("or a word that has more bytes than the slab has columns", () -> {
            SlabCutter x = Due.loaded("slab 5 2;");
            wrong(x, 0, "abcdef");
            wrong(x, 0, "a b 123456");
            due.is("as many", Due.addPart(x, 0, "abcde 12345"), 0);
            SlabCutter y = Due.loaded("slab 11 2;");
            wrong(y, 0, "abcdefghijkl");
            due.is("as many", Due.addPart(y, 0, "abcdefghijk"), 0);
        });
        doc.says("Throws `IllegalStateException` if there are 10 parts,", () -> {
            SlabCutter x = Due.loaded("slab 4 12;" + "verse a;".repeat(9));
            due.is("the tenth", Due.addPart(x, 0, "b"), 9);
            Due.type(x, "b");
            due.failsState("the eleventh", () -> x.addPart(0));
            due.failsArgument("empty then", () -> Due.truncated(x, 1));
            x.dropPart(0);
            due.is("the tenth again", Due.addPart(x, 0, "b"), 9);
        });
        doc.says("or there would be more than 60 words", () -> {
            SlabCutter x = Due.loaded("slab 24 12;verse" + " a".repeat(58) + ";");
            Due.type(x, "b c d");
            due.failsState("61", () -> x.addPart(0));
            due.failsArgument("empty then", () -> Due.truncated(x, 1));
            due.is("60", Due.addPart(x, 0, "b c"), 1);
            Due.type(x, "b");
            due.failsState("61 again", () -> x.addPart(0));
            SlabCutter y = new SlabCutter();
            Due.type(y, "a ".repeat(61));
            due.failsState("61 at once", () -> y.addPart(0));
            Due.type(y, "a ".repeat(250));
            due.failsState("250 at once", () -> y.addPart(0));
            Due.type(y, "a1".repeat(250));
            due.failsState("500 at once", () -> y.addPart(0));
            due.is("none is added", y.property(4) + y.property(5), 0);
        });
    }

    private void dropPart() {
        doc.in("Promise 37: dropPart");
        doc.says("- `part`: number of a part Returns how many words are laid then.", () -> {
            SlabCutter x = Due.loaded("slab 4 4;gap 1;verse ab ab ab;date cd;name ef g;");
            due.is("the first", x.dropPart(0), 3);
            due.is("slab", Due.slab(x), "cd..|....|ef.g|....");
            due.is("the last", x.dropPart(1), 1);
            due.is("slab", Due.slab(x), "cd..|....|....|....");
            due.is("the only one", x.dropPart(0), 0);
            due.is("parts and words", x.property(4) + x.property(5), 0);
            SlabCutter y = Due.loaded("slab 4 12;verse a;date b c;name d;");
            due.is("between", y.dropPart(1), 2);
            due.is("words", Due.part(y, 0) + Due.part(y, 1), "ad");
            due.is("kinds", y.part(0, 0) * 10 + y.part(1, 0), 20);
        });
        doc.says("Throws `IndexOutOfBoundsException` if there is no such part", () -> {
            noSuchPart(2, Due.loaded("slab 4 4;verse a;date b;")::dropPart);
            noSuchPart(0, new SlabCutter()::dropPart);
        });
        doc.says("Throws `IllegalStateException` if a carved letter would not stay", () -> {
            SlabCutter x = Due.loaded("slab 4 5;verse ab;date cd;name ef;");
            x.carve(3);
            due.failsState("carved", () -> x.dropPart(0));
            due.failsState("carved in part", () -> x.dropPart(1));
            due.is("behind the carved ones", x.dropPart(2), 2);
            SlabCutter y = Due.loaded("slab 4 5;verse ab;date cd;");
            y.carve(2);
            due.is("the next one", y.dropPart(1), 1);
            due.failsState("the only one", () -> y.dropPart(0));
        });
    }

    private void movePart() {
        doc.in("Promise 38: movePart");
        doc.says("Moves a part to another place among the parts.", () -> {
            String text = "slab 4 4;verse a;date b c;name d;verse e;";
            String[][] want = {{"abcde", "bcade", "bcdae", "bcdea"}, {"bcade", "abcde", "adbce", "adebc"},
                {"dabce", "adbce", "abcde", "abced"}, {"eabcd", "aebcd", "abced", "abcde"}};
            for (int part = 0; part < 4; part++) {
                for (int to = 0; to < 4; to++) {
                    SlabCutter x = Due.loaded(text);
                    x.movePart(part, to);
                    StringBuilder words = new StringBuilder();
                    for (int word = 0; word < 5; word++) {
                        words.append((char) x.letter(word, 0));
                    }
                    due.is(part + " to " + to, words.toString(), want[part][to]);
                    due.is("its kind", x.part(to, 0), new int[] {2, 1, 0, 2}[part]);
                    due.is("its words", x.part(to, 2), part == 1 ? 2 : 1);
                    due.is("parts", x.property(4) * 10 + x.property(5), 45);
                }
            }
            SlabCutter x = Due.loaded(text);
            x.dropPart(3);
            x.movePart(0, 1);
            due.is("not a part that was there", x.property(4) * 10 + x.property(5), 34);
        });
        doc.says("- `part`: number of a part - `to`: the number that it gets Returns how many words are laid then.", () -> {
            SlabCutter x = Due.loaded("slab 4 3;flaw 3 0,3 1;verse a;verse abcd;date b;");
            due.is("as it is", x.property(6), 2);
            due.is("ahead", x.movePart(1, 0), 1);
            due.is("to the end", x.movePart(0, 2), 3);
            due.is("its own place", x.movePart(1, 1), 3);
            due.is("slab", Due.slab(x), "a..#|b..#|abcd");
        });
        doc.says("Throws `IndexOutOfBoundsException` if there is no such part, or to is not one", () -> {
            SlabCutter x = Due.loaded("slab 4 4;verse a;date b;");
            noSuchPart(2, part -> x.movePart(part, 0));
            noSuchPart(2, to -> x.movePart(0, to));
            noSuchPart(2, both -> x.movePart(both, both));
            noSuchPart(0, both -> new SlabCutter().movePart(both, both));
        });
        doc.says("Throws `IllegalStateException` if a carved letter would not stay", () -> {
            SlabCutter x = Due.loaded("slab 4 4;verse a;date b c;name d;verse e;");
            x.carve(2);
            due.failsState("carved", () -> x.movePart(0, 2));
            due.failsState("ahead of carved ones", () -> x.movePart(3, 0));
            due.failsState("between carved ones", () -> x.movePart(2, 1));
            due.is("its own place", x.movePart(0, 0), 5);
            due.is("behind the carved ones", x.movePart(3, 2), 5);
            due.is("slab", Due.slab(x), "A...|B.c.|e...|.d..");
        });
    }

    private void setFlaw() {
        doc.in("Promise 39: setFlaw");
        doc.says("- `column`: a column - `row`: a row - `flawed`: whether the cell has a flaw from now on", () -> {
            SlabCutter x = Due.loaded("slab 6 2;flaw 3 1;verse ab cd;");
            x.setFlaw(1, 0, true);
            due.is("a flaw", Due.slab(x), ".#ab..|cd.#..");
            x.setFlaw(1, 0, true);
            due.is("a flaw still", Due.slab(x), ".#ab..|cd.#..");
            x.setFlaw(1, 0, false);
            due.is("none", Due.slab(x), "ab.cd.|...#..");
            x.setFlaw(1, 0, false);
            due.is("none still", Due.slab(x), "ab.cd.|...#..");
            x.setFlaw(5, 1, true);
            x.setFlaw(3, 1, false);
            due.is("the last cell", Due.slab(x), "ab.cd.|.....#");
            due.is("flaws", x.property(2), 1);
        });
        doc.says("Returns whether it had one.", () -> {
            SlabCutter x = Due.loaded("slab 6 2;");
            due.is("had none", Due.flaw(x, 5, 1, true), 0);
            due.is("had one", Due.flaw(x, 5, 1, true), 1);
            due.is("had one", Due.flaw(x, 5, 1, false), 1);
            due.is("had none", Due.flaw(x, 5, 1, false), 0);
        });
        doc.says("Throws `IndexOutOfBoundsException` if there is no such cell", () -> {
            SlabCutter x = Due.loaded("slab 4 3;verse ab;");
            noSuchCell((column, row) -> Due.flaw(x, column, row, true));
            noSuchCell((column, row) -> Due.flaw(x, column, row, false));
        });
        doc.says("Throws `IllegalStateException` if there would be 41 flaws,", () -> {
            SlabCutter x = Due.loaded("slab 24 12;");
            for (int i = 0; i < 40; i++) {
                due.is("flaw " + i, Due.flaw(x, i % 24, i / 24, true), 0);
            }
            due.failsState("the 41st", () -> Due.flaw(x, 23, 11, true));
            due.is("one of the 40", Due.flaw(x, 0, 0, true), 1);
            due.is("none elsewhere", Due.flaw(x, 23, 11, false), 0);
            due.is("one fewer", Due.flaw(x, 0, 0, false), 1);
            due.is("the 40th", Due.flaw(x, 23, 11, true), 0);
            due.is("flaws", x.property(2), 40);
        });
        doc.says("or a carved letter would not stay", () -> {
            SlabCutter x = Due.loaded("slab 8 3;flaw 2 0;name a abc;");
            due.is("slab", Due.slab(x), ".a#.abc.|........|........");
            x.carve(1);
            due.failsState("on it", () -> Due.flaw(x, 1, 0, true));
            due.failsState("the name would move to the left", () -> Due.flaw(x, 6, 0, true));
            due.is("the carved word stays", Due.flaw(x, 2, 0, false), 1);
            due.is("slab", Due.slab(x), ".A.abc..|........|........");
            x.carve(1);
            due.failsState("the second word would move", () -> Due.flaw(x, 2, 0, true));
            SlabCutter y = Due.loaded("slab 4 2;flaw 0 0,3 1;verse ab c;");
            y.carve(1);
            due.failsState("a place ahead would be free", () -> Due.flaw(y, 0, 0, false));
            due.is("a place behind it", Due.flaw(y, 3, 1, false), 1);
        });
    }

    private void setGap() {
        doc.in("Promise 40: setGap");
        doc.says("- `gap`: 0 to 3 Returns the gap before.", () -> {
            SlabCutter x = Due.loaded("slab 4 5;gap 1;verse a;date b;date c;");
            due.is("0", x.setGap(0), 1);
            due.is("slab", Due.slab(x), "a...|b...|c...|....|....");
            due.is("3", x.setGap(3), 0);
            due.is("slab", Due.slab(x), "a...|....|....|....|b...");
            due.is("the same", x.setGap(3), 3);
            due.is("gap", x.property(3), 3);
            due.is("without parts", new SlabCutter().setGap(2), 0);
        });
        doc.says("Throws `IllegalArgumentException` if gap is out of range", () -> {
            SlabCutter x = Due.loaded("slab 4 5;gap 1;verse a;date b;date c;");
            for (int gap : new int[] {-1, 4, Integer.MIN_VALUE, Integer.MAX_VALUE}) {
                due.failsArgument("" + gap, () -> x.setGap(gap));
            }
        });
        doc.says("Throws `IllegalStateException` if a carved letter would not stay", () -> {
            SlabCutter x = Due.loaded("slab 4 5;gap 1;verse a;date b;date c;");
            x.carve(1);
            due.is("only parts behind move", x.setGap(2), 1);
            x.carve(1);
            due.failsState("it would move down", () -> x.setGap(3));
            due.failsState("it would move up", () -> x.setGap(1));
            due.is("the same", x.setGap(2), 2);
            SlabCutter y = Due.loaded("slab 4 3;gap 1;verse a;date b;");
            y.carve(2);
            due.failsState("it would be missing", () -> y.setGap(2));
        });
    }

    private void turnSlab() {
        doc.in("Promise 41: turnSlab");
        doc.says("Turns the slab by half a circle: a flaw at the column x and the row y is at the columns less 1 less x and the "
                + "rows less 1 less y then.", () -> {
            SlabCutter x = Due.loaded("slab 5 3;flaw 0 0,1 0,4 1,2 2;");
            due.is("ahead", Due.slab(x), "##...|....#|..#..");
            x.turnSlab();
            due.is("turned", Due.slab(x), "..#..|#....|...##");
            x.turnSlab();
            due.is("turned back", Due.slab(x), "##...|....#|..#..");
            SlabCutter y = Due.loaded("slab 24 12;flaw 0 0,23 0;");
            y.turnSlab();
            due.is("the corners", y.cell(0, 11) + y.cell(23, 11), 2 * SlabCutter.NONE);
            due.is("flaws", y.property(2), 2);
            SlabCutter z = Due.loaded("slab 5 3;flaw 0 2;verse ab;date c;");
            z.laidBut(0);
            z.turnSlab();
            due.is("nothing else changes", Due.slab(z), "ab..#|c....|.....");
        });
        doc.says("Returns how many words are laid then.", () -> {
            SlabCutter x = Due.loaded("slab 5 3;flaw 0 1,0 2;verse abcd e;verse abcde;");
            due.is("turned", x.turnSlab(), 3);
            due.is("slab", Due.slab(x), "abcd#|e...#|abcde");
            due.is("turned back", x.turnSlab(), 2);
            due.is("without words", new SlabCutter().turnSlab(), 0);
        });
        doc.says("Throws `IllegalStateException` if a letter is carved", () -> {
            SlabCutter x = Due.loaded("slab 4 2;verse ab;");
            due.is("none", x.turnSlab(), 1);
            x.carve(1);
            due.failsState("one, though nothing would move", x::turnSlab);
            x.undo();
            due.is("none again", x.turnSlab(), 1);
        });
    }

    private void cutRows() {
        doc.in("Promise 42: cutRows");
        doc.says("Cuts rows off.", () -> {
            SlabCutter x = Due.loaded("slab 4 6;");
            x.cutRows(1, true);
            due.is("five", Due.slab(x), "....|....|....|....|....");
            x.cutRows(3, false);
            due.is("two", Due.slab(x), "....|....");
            due.is("rows", x.property(1), 2);
        });
        doc.says("- `rows`: 1 to the rows less 2", () -> {
            due.is("1 of 3", Due.loaded("slab 4 3;").cutRows(1, false), 0);
            SlabCutter x = Due.loaded("slab 4 12;flaw 0 0,3 11;");
            due.is("10 of 12", x.cutRows(10, true), 0);
            due.is("slab", Due.slab(x), "....|...#");
            SlabCutter y = Due.loaded("slab 4 12;flaw 0 0,3 11;");
            due.is("10 of 12", y.cutRows(10, false), 0);
            due.is("slab", Due.slab(y), "#...|....");
        });
        doc.says("- `top`: whether they are cut off at the top, otherwise at the bottom; their flaws are gone", () -> {
            String text = "slab 4 5;flaw 0 0,1 1,2 2,3 3,1 4,2 4;";
            SlabCutter x = Due.loaded(text);
            x.cutRows(2, true);
            due.is("top", Due.slab(x), "..#.|...#|.##.");
            due.is("flaws", x.property(2), 4);
            SlabCutter y = Due.loaded(text);
            y.cutRows(2, false);
            due.is("bottom", Due.slab(y), "#...|.#..|..#.");
            due.is("flaws", y.property(2), 3);
            // The flaw below the last letter is cut off.
            SlabCutter z = Due.loaded("slab 4 4;flaw 0 3;verse abcd abcd abcd;");
            due.is("strokes", z.word(2, 4), 2 + 3 + 5 + 2);
            z.cutRows(1, false);
            due.is("strokes", z.word(2, 4), 1 + 3 + 5 + 2);
            due.is("touching", z.touching() + z.dear(), 0);
            SlabCutter w = Due.loaded("slab 4 3;flaw 0 2,1 2;");
            w.cutRows(1, false);
            due.is("none is left", w.property(2) + w.worstFlaw(), SlabCutter.NONE);
        });
        doc.says("Returns how many words are laid then.", () -> {
            String text = "slab 4 4;flaw 0 0;verse abcd abcd abcd;";
            due.is("as it is", Due.loaded(text).property(6), 3);
            due.is("one at the top", Due.loaded(text).cutRows(1, true), 3);
            due.is("two at the top", Due.loaded(text).cutRows(2, true), 2);
            due.is("one at the bottom", Due.loaded(text).cutRows(1, false), 2);
            due.is("two at the bottom", Due.loaded(text).cutRows(2, false), 1);
        });
    }

    private void cutRowsRefused() {
        doc.says("Throws `IllegalArgumentException` if rows is out of range", () -> {
            SlabCutter x = Due.loaded("slab 4 6;");
            for (int rows : new int[] {0, -1, 5, 6, Integer.MIN_VALUE, Integer.MAX_VALUE}) {
                due.failsArgument("at the top " + rows, () -> x.cutRows(rows, true));
                due.failsArgument("at the bottom " + rows, () -> x.cutRows(rows, false));
            }
            due.failsArgument("2 rows have none", () -> Due.loaded("slab 4 2;").cutRows(1, false));
        });
        doc.says("Throws `IllegalStateException` if a letter is carved, and they are cut off at the top,", () -> {
            SlabCutter x = Due.loaded("slab 4 6;verse a;");
            x.carve(1);
            due.failsState("at the top, though the letter would be there", () -> x.cutRows(1, true));
            due.is("at the bottom", x.cutRows(1, false), 1);
            SlabCutter y = Due.loaded("slab 4 6;verse a;");
            due.is("none is carved", y.cutRows(1, true), 1);
        });
        doc.says("or a carved letter would not stay", () -> {
            SlabCutter x = Due.loaded("slab 4 6;verse a;verse b;name c;");
            x.carve(2);
            due.is("below it", x.cutRows(3, false), 3);
            due.is("below it, another word", x.cutRows(1, false), 2);
            SlabCutter y = Due.loaded("slab 4 6;verse a;verse b;verse c;");
            y.carve(3);
            due.failsState("it would be gone", () -> y.cutRows(4, false));
            due.is("none would be", y.cutRows(3, false), 3);
            SlabCutter z = Due.loaded("slab 6 3;name ab abcd abcde;");
            z.carve(1);
            due.failsState("the name would move", () -> z.cutRows(1, false));
        });
    }
}
