/** The example of README.md, call for call, so that what it tells a reader stays true. */
public final class ReadmeTest {
    private static final Checks CHECKS = new Checks();

    public static void main(String[] args) {
        GeneIdentity x = new GeneIdentity();
        int father = x.founder();
        int mother = x.founder();
        int son = x.child(father, mother);
        int daughter = x.child(father, mother);
        int baby = x.child(son, daughter);
        CHECKS.due("father", father, 0);
        CHECKS.due("mother", mother, 1);
        CHECKS.due("son", son, 2);
        CHECKS.due("daughter", daughter, 3);
        CHECKS.due("baby", baby, 4);
        CHECKS.due("x.members()", x.members(), 5);
        CHECKS.due("x.ways()", x.ways(), 64);
        CHECKS.due("x.inbred(baby)", x.inbred(baby), 16);
        CHECKS.due("x.two(son, daughter)", x.two(son, daughter), 64);
        CHECKS.due("x.three(father, son, baby)", x.three(father, son, baby), 48);
        CHECKS.due("x.four(son, son, baby, baby)", x.four(son, son, baby, baby), 128);
        CHECKS.due("x.pairs(father, son, mother, daughter)", x.pairs(father, son, mother, daughter), 64);
        CHECKS.due("x.state(son, daughter, 7)", x.state(son, daughter, 7), 16);
        CHECKS.due("x.related(son, daughter)", x.related(son, daughter), 48);
        CHECKS.due("x.from(baby, father)", x.from(baby, father), 64);
        CHECKS.due("x.line(son)", x.line(son), 7);
        CHECKS.due("x.from(baby, son)", x.from(baby, son), GeneIdentity.NONE);
        CHECKS.due("x.child(baby, 5)", x.child(baby, 5), GeneIdentity.BAD_ARG);
        CHECKS.due("x.drop()", x.drop(), 4);
        CHECKS.finish();
    }
}
