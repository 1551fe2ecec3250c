public final class Example {
    public static void main(String[] args) {
        StairCodes x = new StairCodes();
        say("DATA of ROW 0 of BLOCK 1 were", x.data(1, 0, 5));
        say("that ROW is SENT as", x.row(1, 0, 1));

        say("a BIT is hit; WRONG are", x.flip(2, 5, 1));
        say("a MEND of its WORD turns PLACE", x.mend(2, 5));
        say("THE JOURNAL tells BIT", x.journal(0));
        say("the MEND is taken back; left are", x.undo());
        say("behind a SLIDE, WORDS not SOUND are", x.slide(2, 3));

        x.flip(2, 1, 2);
        x.flip(2, 1, 6);
        x.flip(2, 4, 2);
        x.flip(2, 4, 6);
        say("four BITS of a square hit, a MEND answers STALL", x.mend(2, 1));
        say("the first STALLED WORD is", x.stall(0));
        say("whether PIECE 0 is STUCK", x.piece(0, 2));
        say("the best SIZE is", x.best(3));
        say("it would leave WRONG", x.would(2, 3, 0));

        say("a SHEET of truths has items", x.sheet(0, 0, 64));
        say("item 11 becomes true", x.put(0, 0, 11, 1));
        say("BITS turned by that SHEET", x.read(3, 0));
        say("a SHEET that is LOST can't be lost, NULL", x.lose(1));
        say("the latest FINDING is", x.count(8));
        say("of a long answer NULL is the least long and", x.get(1, 0) - Long.MIN_VALUE);
    }

    private static void say(String what, long answer) {
        System.out.println(what + " " + answer);
    }
}
