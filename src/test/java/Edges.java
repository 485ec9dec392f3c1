import java.util.List;

/** Tests of the edges that the document names, each behind the words that it holds the class against. */
abstract class Edges {
    static final int NONE = AviaryLock.NONE;
    static final int LEAST = Integer.MIN_VALUE;
    static final int MOST = Integer.MAX_VALUE;

    /** Calls that make an object what it is when an edge is tried. */
    interface Scene {
        void play(AviaryLock x);
    }

    /** One call, with its answer (a boolean counts 1 or 0). */
    interface Call {
        long on(AviaryLock x);
    }

    private final Check check;
    private final Doc doc;
    private String words = "";

    Edges(Check check, Doc doc) {
        this.check = check;
        this.doc = doc;
    }

    abstract void run();

    /** What follows is due by these words of the document's Terms. */
    final void terms(String quote) {
        quote(Doc.TERMS, quote);
    }

    /** What follows is due by these words of a promise. */
    final void promise(int number, String quote) {
        quote(number, quote);
    }

    private void quote(int part, String quote) {
        words = Doc.name(part) + " \"" + quote + "\": ";
        check.due(words + "these words stand there once", doc.quote(part, quote), true);
    }

    final void due(String what, long got, long want) {
        check.due(words + what, got, want);
    }

    final void due(String what, boolean got, boolean want) {
        check.due(words + what, got, want);
    }

    final void same(String what, List<String> got, List<String> want) {
        int differs = 0;
        while (differs < got.size() && differs < want.size() && got.get(differs).equals(want.get(differs))) {
            differs++;
        }
        boolean alike = differs == got.size() && differs == want.size();
        String first = alike ? "" : " (" + at(got, differs) + ", not " + at(want, differs) + ")";
        due(what + first, alike, true);
    }

    private static String at(List<String> lines, int i) {
        return i < lines.size() ? lines.get(i) : "nothing";
    }

    static AviaryLock after(Scene scene) {
        AviaryLock x = new AviaryLock();
        scene.play(x);
        return x;
    }

    /** The call answers so, and an object on which it was made is like one on which it was not, whatever is asked or undone. */
    final void leaves(String call, Scene scene, Call refused, long want) {
        AviaryLock tried = after(scene);
        AviaryLock spared = after(scene);
        due(call, refused.on(tried), want);
        same(call + " leaves what calls answer", Looks.all(tried), Looks.all(spared));
        same(call + " leaves what undo, redo, boxes bring", Looks.unwound(tried), Looks.unwound(spared));
    }

    /** The call is an act: one more can be undone, none redone, and undo brings back what was. */
    final void isAct(String call, Scene scene, Call act) {
        AviaryLock tried = after(scene);
        AviaryLock spared = after(scene);
        int before = tried.about(12);
        act.on(tried);
        due(call + ", to undo", tried.about(12), before + 1);
        due(call + ", to redo", tried.about(13), 0);
        due(call + " is undone", tried.undo(), true);
        due(call + ", to redo then", tried.about(13), 1);
        same(call + " undone", Looks.kept(tried), Looks.kept(spared));
        act.on(spared);
        due(call + " is redone", tried.redo(), true);
        same(call + " redone", Looks.kept(tried), Looks.kept(spared));
    }

    /** Another call than an act: what can be undone and redone stays. */
    final void isNoAct(String call, Scene scene, Call other) {
        AviaryLock x = after(scene);
        int undo = x.about(12);
        int redo = x.about(13);
        other.on(x);
        due(call + ", to undo", x.about(12), undo);
        due(call + ", to redo", x.about(13), redo);
    }

    static final String BUSY_TEXT = "lock 6;spring 3 2;manners 60;curtain 2;draw 123;sort wren birds 30 slips 20+veil*5;"
        + "sort owl birds 9 slips gap*50+people;party 2 at 0 in pram;party 1 at 0 out;party 3 at 2 in;party 1 at 9 out;party 2 at 20 in;";

    /** A house in which there is something of all: doors open, acts kept and undone, counts, boxes, a fault, bytes on the tape. */
    static void busy(AviaryLock x) {
        Texts.put(x, BUSY_TEXT);
        x.house();
        x.seconds(1);
        x.image(0);
        x.curtain(1);
        x.count(0, 3, 20, 2);
        x.later(4);
        x.count(1, 0, 9, 9);
        x.untell(0);
        x.seconds(2);
        x.dusk();
        x.image(2);
        x.seconds(1);
        x.undo();
        x.undo();
        x.veils(2);
        Texts.put(x, "lock 0;dark;");
        x.house();
    }

    /** The busy house when all who came are through, both doors are shut and some birds are between them. */
    static void quiet(AviaryLock x) {
        busy(x);
        x.seconds(60);
        x.curtain(3);
        x.undo();
    }
}
