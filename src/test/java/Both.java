/** An object and the model side by side: every call goes to both, and their answers must be the same. */
final class Both {
    private final FeatureUnifier x = new FeatureUnifier();
    private final Model model = new Model();
    private final String name;
    private int calls = 0;

    Both(String name) {
        this.name = name;
    }

    /** How many calls the object has had; it is promised for 512. */
    int calls() {
        return calls;
    }

    /** Without a call on the object. */
    int modelNodes() {
        return model.nodes();
    }

    private String told(String call) {
        calls++;
        return name + " call " + calls + ": " + call;
    }

    private static String with(int... arguments) {
        StringBuilder text = new StringBuilder("(");
        for (int at = 0; at < arguments.length; at++) {
            text.append(at == 0 ? "" : ", ").append(arguments[at]);
        }
        return text.append(")").toString();
    }

    void under(int a, int b) {
        Due.is(told("under" + with(a, b)), x.under(a, b), model.under(a, b));
    }

    void isUnder(int a, int b) {
        Due.is(told("isUnder" + with(a, b)), x.isUnder(a, b), model.isUnder(a, b));
    }

    void meet(int a, int b) {
        Due.is(told("meet" + with(a, b)), x.meet(a, b), model.meet(a, b));
    }

    void node(int type) {
        Due.is(told("node" + with(type)), x.node(type), model.node(type));
    }

    void nodes() {
        Due.is(told("nodes()"), x.nodes(), model.nodes());
    }

    void arc(int n, int f, int m) {
        Due.is(told("arc" + with(n, f, m)), x.arc(n, f, m), model.arc(n, f, m));
    }

    void unify(int n, int m) {
        Due.is(told("unify" + with(n, m)), x.unify(n, m), model.unify(n, m));
    }

    void unifiable(int n, int m) {
        Due.is(told("unifiable" + with(n, m)), x.unifiable(n, m), model.unifiable(n, m));
    }

    void classOf(int n) {
        Due.is(told("classOf" + with(n)), x.classOf(n), model.classOf(n));
    }

    void typeOf(int n) {
        Due.is(told("typeOf" + with(n)), x.typeOf(n), model.typeOf(n));
    }

    void value(int n, int f) {
        Due.is(told("value" + with(n, f)), x.value(n, f), model.value(n, f));
    }

    void classes() {
        Due.is(told("classes()"), x.classes(), model.classes());
    }

    void reach(int n) {
        Due.is(told("reach" + with(n)), x.reach(n), model.reach(n));
    }

    void subsumes(int n, int m) {
        Due.is(told("subsumes" + with(n, m)), x.subsumes(n, m), model.subsumes(n, m));
    }

    void mark() {
        Due.is(told("mark()"), x.mark(), model.mark());
    }

    void back() {
        Due.is(told("back()"), x.back(), model.back());
    }

    void keep() {
        Due.is(told("keep()"), x.keep(), model.keep());
    }

    void marks() {
        Due.is(told("marks()"), x.marks(), model.marks());
    }

    void clear() {
        told("clear()");
        x.clear();
        model.clear();
    }

    /** At most 99 calls: everything about the nodes, and the number of marks. */
    void lookAtAll() {
        nodes();
        classes();
        marks();
        for (int n = 0; n < model.nodes(); n++) {
            classOf(n);
            typeOf(n);
            reach(n);
            for (int f = 0; f < 3; f++) {
                value(n, f);
            }
        }
    }
}
