import java.util.function.Consumer;

/** Asks a question of new objects, and sees whether another question is answered otherwise than without it. */
final class Unchanging {
    private Unchanging() {
    }

    /** Each part is looked at in objects of its own: what is looked at first could hide a change. */
    static void ask(Due due, String name, Consumer<ViewRewriter> question) {
        for (int scene = 0; scene < Scene.all().length; scene++) {
            for (int part = 0; part < State.PARTS; part++) {
                String without = State.part(Scene.all()[scene], part);
                ViewRewriter asked = Scene.all()[scene];
                question.accept(asked);
                due.holds("part " + part + " of scene " + scene + " after " + name,
                        State.part(asked, part).equals(without));
                question.accept(asked);
                due.holds("part " + part + " of scene " + scene + " after " + name + " twice",
                        State.part(asked, part).equals(without));
            }
        }
    }
}
