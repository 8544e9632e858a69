"""A second house of documents, written apart from the class, as trees of values: what the class is held against.

It is no part of the program and of its tests (.ci/run needs javac and java alone); see README.md here.
"""
import functools
MISSING=None
I,L,B,N,T,D,R=16,18,8,10,2,3,4
class El:
    __slots__=('kind','name','val','place')
    def __init__(s,kind,val,name=b'',place=-1): s.kind=kind;s.val=val;s.name=name;s.place=place
class Fault(Exception):
    def __init__(s,code,place): s.code=code;s.place=place
def with_name(e,name): return El(e.kind,e.val,name,e.place)
# ---- bytes
def enc_val(e):
    if e.kind==I: return (e.val&0xffffffff).to_bytes(4,'little')
    if e.kind==L: return (e.val&(2**64-1)).to_bytes(8,'little')
    if e.kind==B: return bytes([e.val])
    if e.kind==N: return b''
    if e.kind==T: return (len(e.val)+1).to_bytes(4,'little')+e.val+b'\0'
    out=b''
    for i,c in enumerate(e.val):
        nm = c.name if e.kind==D else str(i).encode()
        out+=bytes([c.kind])+nm+b'\0'+enc_val(c)
    return (len(out)+5).to_bytes(4,'little')+out+b'\0'
def doc(*els): return El(D,list(els))
def num(name,x): return El(I,x,name.encode())
def depth(e):
    if e.kind not in (D,R): return 0
    return 1+max([depth(c) for c in e.val],default=0)
def utf8_bad(bs):
    # first bad char offset or None
    i=0
    while i<len(bs):
        for n in (1,2,3,4):
            try:
                s=bs[i:i+n].decode('utf-8')
                if len(s)==1 and len(bs[i:i+n])==n:
                    i+=n;break
            except UnicodeDecodeError: pass
        else: return i
    return None
class Parser:
    def __init__(s,b): s.b=b
    def parse(s):
        e=s.container(0,len(s.b),1,False)
        return El(D,e[0])
    def container(s,at,limit,deep,row):
        b=s.b
        left=limit-at
        if left<4: raise Fault(1,at)
        size=int.from_bytes(b[at:at+4],'little')
        if size<5 or (deep==1 and size<left): raise Fault(2,at)
        if size>left: raise Fault(1,at)
        if deep>16: raise Fault(8,at)
        last=at+size-1
        p=at+4; els=[]
        while True:
            if p==last:
                if b[p]!=0: raise Fault(2,p)
                return els,p+1
            k=b[p]
            if k==0: raise Fault(2,p)
            if k not in (16,18,8,10,2,3,4): raise Fault(3,p)
            z=b.find(0,p+1,last)
            if z<0: raise Fault(1,p+1)
            name=b[p+1:z]
            u=utf8_bad(name)
            if u is not None: raise Fault(4,p+1+u)
            if row:
                if name!=str(len(els)).encode(): raise Fault(7,p+1)
            elif any(x.name==name for x in els): raise Fault(7,p+1)
            v=z+1; left=last-v
            if k in (16,18,8):
                w={16:4,18:8,8:1}[k]
                if left<w: raise Fault(1,v)
                if k==8:
                    if b[v]>1: raise Fault(5,v)
                    val=b[v]
                else: val=int.from_bytes(b[v:v+w],'little',signed=True)
                nx=v+w
            elif k==10: val=None; nx=v
            elif k==2:
                if left<4: raise Fault(1,v)
                n=int.from_bytes(b[v:v+4],'little')
                if n<1: raise Fault(6,v)
                if left<4+n: raise Fault(1,v)
                if b[v+4+n-1]!=0: raise Fault(6,v+4+n-1)
                val=b[v+4:v+4+n-1]
                u=utf8_bad(val)
                if u is not None: raise Fault(4,v+4+u)
                nx=v+4+n
            else:
                val,nx=s.container(v,last,deep+1,k==4)
            els.append(El(k,val,name,p)); p=nx
# ---- order
CLS={N:1,I:2,L:2,T:3,D:4,R:5,B:6}
def cls(e): return 0 if e is None else CLS[e.kind]
def c3(a,b): return (a>b)-(a<b)
def cmp(a,b):
    ca,cb=cls(a),cls(b)
    if ca!=cb: return c3(ca,cb)
    if ca<2: return 0
    if ca in (2,3,6): return c3(a.val,b.val)
    for x,y in zip(a.val,b.val):
        if ca==4:
            r=c3(cls(x),cls(y)) or c3(x.name,y.name)
            if r: return r
        r=cmp(x,y)
        if r: return r
    return c3(len(a.val),len(b.val))
def same(a,b): return cmp(a,b)==0
def path(bs):
    if b'\0' in bs: return None
    st=bs.split(b'.')
    if len(st)>8 or any(x==b'' for x in st): return None
    return st
def plainpath(bs):
    st=path(bs)
    if st is None or any(x[:1]==b'$' for x in st): return None
    return st
def isdig(st): return st.isdigit() and all(48<=c<=57 for c in st) and (st==b'0' or st[:1]!=b'0')
def get(e,name):
    for c in e.val:
        if c.name==name: return c
    return None
def leaves(v,st):
    if not st: return [v]
    if v is not None and v.kind==D:
        c=get(v,st[0])
        return [None] if c is None else leaves(c,st[1:])
    if v is not None and v.kind==R:
        out=[]
        if isdig(st[0]) and int(st[0])<len(v.val): out+=leaves(v.val[int(st[0])],st[1:])
        for it in v.val:
            if it.kind==D: out+=leaves(it,st)
        return out
    return [None]
def withitems(ls):
    out=[]
    for l in ls:
        out.append(l)
        if l is not None and l.kind==R: out+=l.val
    return out
# ---- filters
COND=[b'$eq',b'$ne',b'$in',b'$nin',b'$lt',b'$lte',b'$gt',b'$gte',b'$exists',b'$size',b'$elem',b'$not']
LOGIC=[b'$and',b'$or',b'$nor']
def isconds(v): return v.kind==D and len(v.val)>0 and v.val[0].name[:1]==b'$'
class FCheck:
    def __init__(s): s.n=0
    def add(s,k,e):
        s.n+=k
        if s.n>100: raise Fault(5,e.place)
    def filt(s,f):
        for e in f.val:
            if e.name[:1]==b'$':
                if e.name not in LOGIC: raise Fault(1,e.place)
                if e.kind!=R or not e.val: raise Fault(2,e.place)
                s.add(1,e)
                for it in e.val:
                    if it.kind!=D: raise Fault(2,it.place)
                    s.filt(it)
            else:
                if plainpath(e.name) is None: raise Fault(3,e.place)
                if isconds(e): s.add(1,e); s.conds(e)
                else: s.add(2,e)
    def conds(s,e):
        for c in e.val:
            if c.name not in COND: raise Fault(1,c.place)
            n=c.name; ok=True
            if n in (b'$in',b'$nin'): ok=c.kind==R
            if n==b'$exists': ok=c.kind==B
            if n==b'$size': ok=c.kind in (I,L) and c.val>=0
            if n==b'$elem': ok=c.kind==D
            if n==b'$not': ok=isconds(c)
            if not ok: raise Fault(4,c.place)
            s.add(1,c)
            if n==b'$not': s.conds(c)
            if n==b'$elem':
                if isconds(c) and c.val[0].name not in LOGIC: s.conds(c)
                else: s.filt(c)
def holds(f,d):
    for e in f.val:
        if e.name==b'$and': r=all(holds(x,d) for x in e.val)
        elif e.name==b'$or': r=any(holds(x,d) for x in e.val)
        elif e.name==b'$nor': r=not any(holds(x,d) for x in e.val)
        else:
            ls=leaves(d,e.name.split(b'.')) or [None]
            if isconds(e): r=all(cond(c,ls) for c in e.val)
            else: r=c_eq(e,ls)
        if not r: return False
    return True
def c_eq(v,ls):
    if v.kind==N and any(l is None for l in ls): return True
    return any(x is not None and same(x,v) for x in withitems(ls))
def cond(c,ls):
    n=c.name
    if n==b'$eq': return c_eq(c,ls)
    if n==b'$ne': return not c_eq(c,ls)
    if n==b'$in': return any(c_eq(x,ls) for x in c.val)
    if n==b'$nin': return not any(c_eq(x,ls) for x in c.val)
    if n in (b'$lt',b'$lte',b'$gt',b'$gte'):
        if c.kind==N: return n in (b'$lte',b'$gte') and c_eq(c,ls)
        for x in withitems(ls):
            if cls(x)==cls(c):
                r=cmp(x,c)
                if {b'$lt':r<0,b'$lte':r<=0,b'$gt':r>0,b'$gte':r>=0}[n]: return True
        return False
    if n==b'$exists':
        ex=any(l is not None for l in ls)
        return ex if c.val else not ex
    if n==b'$size': return any(l is not None and l.kind==R and len(l.val)==c.val for l in ls)
    if n==b'$elem':
        cc=isconds(c) and c.val[0].name not in LOGIC
        for l in ls:
            if l is None or l.kind!=R: continue
            for it in l.val:
                if cc:
                    if all(cond(x,[it]) for x in c.val): return True
                elif it.kind==D and holds(c,it): return True
        return False
    if n==b'$not': return not all(cond(x,ls) for x in c.val)
    assert 0
# ---- changes
OPS=[b'$set',b'$unset',b'$inc',b'$push',b'$pull',b'$addToSet']
def ch_check(ch):
    seen=[]
    for o in ch.val:
        if o.name not in OPS: raise Fault(1,o.place)
        if o.kind!=D: raise Fault(2,o.place)
        for p in o.val:
            st=path(p.name)
            if st is None: raise Fault(3,p.place)
            if o.name==b'$inc' and p.kind not in (I,L): raise Fault(4,p.place)
            for q in seen:
                m=min(len(q),len(st))
                if q[:m]==st[:m]: raise Fault(5,p.place)
            seen.append(st)
def clone(e):
    if e.kind in (D,R): return El(e.kind,[clone(c) for c in e.val],e.name)
    return El(e.kind,e.val,e.name)
def put_val(e,v): e.kind=v.kind; e.val=clone(v).val
def ch_do(d,ch):
    d=clone(d); d.name=b''
    changed=False
    for o in ch.val:
        for p in o.val:
            before=enc_val(d)
            ch_path(d,o.name,p)
            if enc_val(d)!=before: changed=True
    if len(enc_val(d))>2000 or depth(d)>16: raise Fault(9,ch.place)
    return d,changed
def meets(cur,st):
    if cur.kind==D: return get(cur,st)
    if cur.kind==R and isdig(st) and int(st)<len(cur.val): return cur.val[int(st)]
    return None
def ch_path(d,op,p):
    st=path(p.name)
    if op in (b'$unset',b'$pull'):
        cur=d;par=None
        for s in st:
            par=cur; cur=meets(cur,s)
            if cur is None: return
        if op==b'$unset':
            if par.kind==D: par.val.remove(cur)
            else: cur.kind=N;cur.val=None
        else:
            if cur.kind!=R: raise Fault(7,p.place)
            cur.val=[x for x in cur.val if not same(x,p)]
        return
    cur=d
    for i,s in enumerate(st):
        if cur.kind==D: nx=get(cur,s)
        elif cur.kind==R:
            if not isdig(s) or int(s)>len(cur.val): raise Fault(6,p.place)
            nx=meets(cur,s)
        else: raise Fault(6,p.place)
        if i<len(st)-1:
            if nx is None:
                nx=El(D,[],s); cur.val.append(nx)
            cur=nx
    a=clone(p)
    if nx is None:
        if op in (b'$push',b'$addToSet'): a=El(R,[a])
        a.name=st[-1]
        cur.val.append(a); return
    if op==b'$set': put_val(nx,p)
    elif op==b'$inc':
        if nx.kind not in (I,L): raise Fault(7,p.place)
        t=nx.val+p.val
        if nx.kind==I and p.kind==I and -2**31<=t<2**31: k=I
        else: k=L
        if not -2**63<=t<2**63: raise Fault(8,p.place)
        nx.kind=k;nx.val=t
    else:
        if nx.kind!=R: raise Fault(7,p.place)
        if op==b'$addToSet' and any(same(x,p) for x in nx.val): return
        nx.val.append(a)
# ---- stages
def plain(n): return n!=b'' and b'.' not in n and b'\0' not in n and n[:1]!=b'$'
def value(v,st):
    if not st: return v
    if v.kind==D:
        c=get(v,st[0])
        return None if c is None else value(c,st[1:])
    if v.kind==R:
        return El(R,[x for x in (value(it,st) for it in v.val if it.kind==D) if x is not None])
    return None
class SF(Exception):
    def __init__(s,c): s.c=c
def exchk(e):
    if e.kind==T and e.val[:1]==b'$' and plainpath(e.val[1:]) is None: raise SF(3)
def expr(e,d):
    if e.kind==T and e.val[:1]==b'$': return value(d,e.val[1:].split(b'.'))
    return e
def belt_ok(ds):
    t=0
    for d in ds:
        n=len(enc_val(d)); t+=n
        if n>2000 or depth(d)>16: raise SF(5)
    if len(ds)>200 or t>40000: raise SF(5)
    return ds
def stage(s,b0,b1):
    if len(s.val)!=1: raise SF(1)
    e=s.val[0]; n=e.name
    if n==b'$project':
        if e.kind!=D or not e.val: raise SF(2)
        for x in e.val:
            if not plain(x.name): raise SF(2)
            exchk(x)
        out=[]
        for d in b0:
            nd=[]
            for x in e.val:
                v=get(d,x.name) if x.kind==B and x.val==1 else expr(x,d)
                if v is not None: nd.append(with_name(v,x.name))
            out.append(El(D,nd))
        return belt_ok(out)
    if n==b'$unwind':
        if e.kind!=T or e.val[:1]!=b'$': raise SF(2)
        st=plainpath(e.val[1:])
        if st is None: raise SF(3)
        out=[]
        for d in b0:
            cur=d
            for s_ in st:
                cur=get(cur,s_) if cur is not None and cur.kind==D else None
            if cur is None or cur.kind==N: continue
            if cur.kind!=R: out.append(d); continue
            def rep(x,st,it):
                if not st: return with_name(it,x.name)
                return El(D,[rep(c,st[1:],it) if c.name==st[0] else c for c in x.val],x.name)
            for it in cur.val: out.append(rep(d,st,it))
            if len(out)>3000: raise SF(5)
        return belt_ok(out)
    if n==b'$group':
        if e.kind!=D or not e.val or e.val[0].name!=b'by': raise SF(2)
        exchk(e.val[0])
        for x in e.val[1:]:
            if not plain(x.name) or x.kind!=D or len(x.val)!=1: raise SF(2)
            a=x.val[0]
            if a.name not in (b'$count',b'$sum',b'$min',b'$max',b'$first',b'$last',b'$push',b'$addToSet'): raise SF(2)
            if a.name==b'$count' and a.kind!=N: raise SF(2)
            exchk(a)
        groups=[]
        for d in b0:
            k=expr(e.val[0],d)
            if k is None: k=El(N,None)
            for g in groups:
                if same(g[0],k): g[1].append(d); break
            else: groups.append((k,[d]))
        out=[]
        for k,ds in groups:
            nd=[with_name(k,b'by')]
            for x in e.val[1:]:
                a=x.val[0]; vs=[expr(a,d) for d in ds]; pv=[v for v in vs if v is not None]
                m=a.name
                if m==b'$count': r=El(L,len(ds))
                elif m==b'$sum':
                    t=sum(v.val for v in pv if v.kind in (I,L))
                    if not -2**63<=t<2**63: raise SF(4)
                    r=El(L,t)
                elif m in (b'$min',b'$max'):
                    r=None
                    for v in pv:
                        if r is None or (cmp(v,r)<0 if m==b'$min' else cmp(v,r)>0): r=v
                elif m==b'$first': r=vs[0]
                elif m==b'$last': r=vs[-1]
                elif m==b'$push': r=El(R,pv)
                else:
                    u=[]
                    for v in pv:
                        if not any(same(v,w) for w in u): u.append(v)
                    r=El(R,u)
                if r is None: r=El(N,None)
                nd.append(with_name(r,x.name))
            out.append(El(D,nd))
        return belt_ok(out)
    if n==b'$sort':
        if e.kind!=D or not 1<=len(e.val)<=4: raise SF(2)
        ks=[]
        for x in e.val:
            if x.kind not in (I,L) or x.val not in (1,-1): raise SF(2)
            st=plainpath(x.name)
            if st is None: raise SF(3)
            ks.append((st,x.val))
        def keyof(d,st,w):
            ls=withitems(leaves(d,st)) or [None]
            return sorted(ls,key=functools.cmp_to_key(cmp))[0 if w==1 else -1]
        dec=[([keyof(d,st,w) for st,w in ks],d) for d in b0]
        def cc(x,y):
            for (st,w),p,q in zip(ks,x[0],y[0]):
                r=cmp(p,q)*w
                if r: return r
            return 0
        return [d for _,d in sorted(dec,key=functools.cmp_to_key(cc))]
    if n in (b'$skip',b'$limit'):
        if e.kind not in (I,L) or e.val<0: raise SF(2)
        return b0[e.val:] if n==b'$skip' else b0[:e.val]
    if n==b'$lookup':
        if e.kind!=D or [x.name for x in e.val]!=[b'here',b'there',b'as'] or any(x.kind!=T for x in e.val) or not plain(e.val[2].val): raise SF(2)
        h,t=plainpath(e.val[0].val),plainpath(e.val[1].val)
        if h is None or t is None: raise SF(3)
        nm=e.val[2].val
        def vals(d,st):
            return [El(N,None) if x is None else x for x in withitems(leaves(d,st))] or [El(N,None)]
        out=[]
        bt=[(vals(o,t),o) for o in b1]
        for d in b0:
            hv=vals(d,h)
            row=El(R,[o for ov,o in bt if any(same(x,y) for x in ov for y in hv)],nm)
            if get(d,nm) is not None: nd=[row if c.name==nm else c for c in d.val]
            else: nd=d.val+[row]
            out.append(El(D,nd))
        return belt_ok(out)
    raise SF(1)
# ---- tree
CAP,LEAST=8,4
class Node:
    def __init__(s,leaf): s.leaf=leaf; s.kids=[]; s.marks=[]
class Tree:
    def __init__(s,cmpf): s.root=Node(True); s.cmp=cmpf
    def add(s,e):
        r=s._add(s.root,e)
        if r:
            n=Node(False); n.kids=[s.root,r[1]]; n.marks=[r[0]]; s.root=n
    def turn(s,n,e):
        i=0
        for k,m in enumerate(n.marks):
            if s.cmp(m,e)<=0: i=k+1
        return i
    def _add(s,n,e):
        if n.leaf:
            i=0
            while i<len(n.kids) and s.cmp(n.kids[i],e)<0: i+=1
            assert not(i<len(n.kids) and s.cmp(n.kids[i],e)==0)
            n.kids.insert(i,e)
            if len(n.kids)>CAP:
                r=Node(True); r.kids=n.kids[LEAST:]; n.kids=n.kids[:LEAST]
                return r.kids[0],r
            return None
        i=s.turn(n,e)
        x=s._add(n.kids[i],e)
        if x:
            n.kids.insert(i+1,x[1]); n.marks.insert(i,x[0])
            if len(n.kids)>CAP:
                r=Node(False); r.kids=n.kids[LEAST:]; n.kids=n.kids[:LEAST]
                up=n.marks[LEAST-1]; r.marks=n.marks[LEAST:]; n.marks=n.marks[:LEAST-1]
                return up,r
        return None
    def rem(s,e):
        s._rem(s.root,e)
        if not s.root.leaf and len(s.root.kids)==1: s.root=s.root.kids[0]
    def _rem(s,n,e):
        if n.leaf:
            k=[i for i,x in enumerate(n.kids) if s.cmp(x,e)==0]
            assert len(k)==1
            del n.kids[k[0]]; return
        i=s.turn(n,e); c=n.kids[i]
        s._rem(c,e)
        if len(c.kids)>=LEAST: return
        left=n.kids[i-1] if i>0 else None
        right=n.kids[i+1] if i+1<len(n.kids) else None
        if left and len(left.kids)>LEAST:
            x=left.kids.pop(); c.kids.insert(0,x)
            if c.leaf: n.marks[i-1]=c.kids[0]
            else:
                c.marks.insert(0,n.marks[i-1]); n.marks[i-1]=left.marks.pop()
        elif right and len(right.kids)>LEAST:
            x=right.kids.pop(0); c.kids.append(x)
            if c.leaf: n.marks[i]=right.kids[0]
            else:
                c.marks.append(n.marks[i]); n.marks[i]=right.marks.pop(0)
        else:
            j=i-1 if left else i
            a,b=n.kids[j],n.kids[j+1]
            if not a.leaf: a.marks+= [n.marks[j]]+b.marks
            a.kids+=b.kids
            del n.kids[j+1]; del n.marks[j]
    def all(s):
        out=[]
        def w(n):
            if n.leaf: out.extend(n.kids)
            else:
                assert len(n.marks)==len(n.kids)-1
                for k in n.kids: w(k)
        w(s.root); return out
    def stats(s):
        lv=1;n=s.root
        while not n.leaf: n=n.kids[0]; lv+=1
        le=no=0
        st=[s.root]
        while st:
            n=st.pop(); no+=1
            if n.leaf: le+=1
            else: st+=n.kids
        return lv,le,no
NOTH=El(N,None)
class Index:
    def __init__(s,paths,downs):
        s.paths=[p.split(b'.') for p in paths]; s.raw=paths; s.downs=downs
        s.many=[False]*2
        def ec(a,b):
            for i in range(2):
                r=cmp(a[i],b[i])*(-1 if i<len(downs) and downs[i] else 1)
                if r: return r
            return c3(a[2],b[2])
        s.tree=Tree(ec)
    def keys(s,d,i):
        if i>=len(s.paths): return [NOTH]
        out=[]
        for l in leaves(d,s.paths[i]):
            if l is None: out.append(NOTH)
            elif l.kind==R: out+= l.val or [NOTH]
            else: out.append(l)
        if not out: out=[NOTH]
        for k in out:
            if len(enc_val(k))>64: raise Fault(40,-1)
        u=[]
        for k in out:
            if not any(same(k,x) for x in u): u.append(k)
        if i<len(s.downs) and s.downs[i]: u.sort(key=functools.cmp_to_key(lambda a,b:-cmp(a,b)))
        else: u.sort(key=functools.cmp_to_key(cmp))
        return u
    def ents(s,d,n): return [(a,b,n) for a in s.keys(d,0) for b in s.keys(d,1)]
    def note(s,d):
        for i in range(2):
            if len(s.keys(d,i))>1: s.many[i]=True
# ---- bounds: a set is a list of (lo,hi); end=(cls,where,val,IN) where -1 beginning 0 value 1 end
def ecmp(a,b):
    r=c3(a[0],b[0])
    if r: return r
    r=c3(a[1],b[1])
    if r: return r
    return cmp(a[2],b[2]) if a[1]==0 else 0
def inter(x,y):
    out=[]
    for l1,h1 in x:
        for l2,h2 in y:
            r=ecmp(l1,l2)
            lo=l1 if r>0 else l2 if r<0 else (l1 if not l1[3] or l2[3] else l2)
            r=ecmp(h1,h2)
            hi=h1 if r<0 else h2 if r>0 else (h1 if not h1[3] or h2[3] else h2)
            r=ecmp(lo,hi)
            if r<0 or (r==0 and lo[3] and hi[3]): out.append((lo,hi))
    return out
def pt(v): return ((cls(v),0,v,True),(cls(v),0,v,True))
def bnd6(n,c):
    if n==b'$eq': return None if c.kind==R else [pt(c)]
    if n==b'$in':
        if any(x.kind==R for x in c.val): return None
        u=[]
        for x in c.val:
            if not any(same(x,y) for y in u): u.append(x)
        return [pt(x) for x in u]
    if n in (b'$lt',b'$lte',b'$gt',b'$gte'):
        if c.kind==R: return None
        if c.kind==N: return [pt(c)] if n in (b'$lte',b'$gte') else []
        k=cls(c)
        if n in (b'$lt',b'$lte'): return [((k,-1,None,False),(k,0,c,n==b'$lte'))]
        return [((k,0,c,n==b'$gte'),(k,1,None,False))]
    return None
def bnd(n,c):
    if n==b'$elem':
        if not isconds(c) or c.val[0].name in LOGIC: return None
        bs=[x for x in (bnd6(y.name,y) for y in c.val) if x is not None]
        if not bs: return None
        r=bs[0]
        for x in bs[1:]: r=inter(r,x)
        return r+[((5,-1,None,False),(5,1,None,False))]
    return bnd6(n,c)
def says(f,raw):
    out=[]
    for e in f.val:
        if e.name==raw:
            if isconds(e): out+=[(c.name,c) for c in e.val]
            else: out.append((b'$eq',e))
        elif e.name==b'$and':
            for x in e.val: out+=says(x,raw)
    return out
def bounds(f,raw,many):
    cs=[(n,bnd(n,c)) for n,c in says(f,raw)]
    cs=[(n,x) for n,x in cs if x is not None]
    if not cs: return None
    if many:
        for n,x in cs:
            if n in (b'$eq',b'$in'): return x
        return cs[0][1]
    r=cs[0][1]
    for n,x in cs[1:]: r=inter(r,x)
    return r
def inset(s,k):
    for lo,hi in s:
        v=(cls(k),0,k,True)
        a,b=ecmp(lo,v),ecmp(v,hi)
        if (a<0 or a==0 and lo[3]) and (b<0 or b==0 and hi[3]): return True
    return False
def points(s): return all(lo[1]==0 and hi[1]==0 and ecmp(lo,hi)==0 for lo,hi in s)
# ---- house
class Shelf:
    def __init__(s): s.docs=[]; s.given=0; s.idx=[None]*4
class House:
    def __init__(s): s.sh=[Shelf(),Shelf()]; s.ans=b''
    def ask(s,req):
        try: a=s.do(req)
        except Fault as f: a=doc(num('fault',f.code),num('place',f.place))
        s.ans=enc_val(a)
        return s.ans
    def do(s,req):
        r=Parser(req).parse()
        last=len(req)-1
        els=r.val
        def bad(i): raise Fault(9,els[i].place if i<len(els) else last)
        if not els: bad(0)
        op=els[0].name.decode('latin-1'); h=els[0]
        if op in ('insert','find','count','update','delete','explain'):
            if h.kind!=D: bad(0)
        elif op in ('drop','shape'):
            if h.kind not in (I,L): bad(0)
        elif op=='pipeline':
            if h.kind!=R: bad(0)
            for x in h.val:
                if x.kind!=D: raise Fault(9,x.place)
        elif op=='index':
            if h.kind!=R or not h.val: bad(0)
            for i,x in enumerate(h.val):
                if i>1 or x.kind!=T or plainpath(x.val) is None or (i==1 and x.val==h.val[0].val): raise Fault(9,x.place)
        else: bad(0)
        if len(els)<2 or els[1].name!=b'shelf' or els[1].kind not in (I,L) or els[1].val not in (0,1): bad(1)
        n=2
        if op=='update':
            n=3
            if len(els)<3 or els[2].name!=b'change' or els[2].kind!=D: bad(2)
        if op=='index':
            n=3
            if len(els)<3 or els[2].name!=b'down' or els[2].kind!=R or len(els[2].val)!=len(h.val): bad(2)
            for x in els[2].val:
                if x.kind!=B: raise Fault(9,x.place)
        if len(els)>n: bad(n)
        S=s.sh[els[1].val]; O=s.sh[1-els[1].val]
        return getattr(s,'r_'+op)(S,O,h,els)
    def room(s,c):
        if not c: raise Fault(40,-1)
    def fcheck(s,f):
        try: FCheck().filt(f)
        except Fault as x: raise Fault(10+x.code,x.place)
    def fits(s,docs):
        s.room(len(docs)<=200 and sum(len(enc_val(d)) for n,d in docs)<=40000)
    def ix_fits(s,ix,docs): s.room(sum(len(ix.ents(d,n)) for n,d in docs)<=1000)
    def r_insert(s,S,O,h,els):
        d=clone(h); d.name=b''
        new=S.docs+[(S.given+1,d)]
        s.fits(new)
        for ix in S.idx:
            if ix: s.ix_fits(ix,new)
        S.given+=1; S.docs=new
        for ix in S.idx:
            if ix:
                for e in ix.ents(d,S.given): ix.tree.add(e)
                ix.note(d)
        return doc(num('number',S.given))
    def ansroom(s,a):
        s.room(len(enc_val(a))<=8000); return a
    def r_find(s,S,O,h,els):
        s.fcheck(h)
        f=[(n,d) for n,d in S.docs if holds(h,d)]
        return s.ansroom(doc(num('many',len(f)),El(R,[doc(num('number',n),with_name(d,b'is')) for n,d in f],b'found')))
    def r_count(s,S,O,h,els):
        s.fcheck(h)
        return doc(num('many',sum(holds(h,d) for n,d in S.docs)))
    def r_update(s,S,O,h,els):
        s.fcheck(h); ch=els[2]
        try: ch_check(ch)
        except Fault as x: raise Fault(20+x.code,x.place)
        new=[];many=0;chg=set()
        for n,d in S.docs:
            if holds(h,d):
                many+=1
                try: d2,c=ch_do(d,ch)
                except Fault as x: raise Fault(20+x.code,x.place)
                if c: chg.add(n)
                new.append((n,d2))
            else: new.append((n,d))
        s.fits(new)
        for ix in S.idx:
            if ix: s.ix_fits(ix,new)
        for ix in S.idx:
            if not ix: continue
            for n,d in S.docs:
                if n in chg:
                    for e in ix.ents(d,n): ix.tree.rem(e)
            for n,d in new:
                if n in chg:
                    for e in ix.ents(d,n): ix.tree.add(e)
                    ix.note(d)
        S.docs=new
        return doc(num('many',many),num('changed',len(chg)))
    def r_delete(s,S,O,h,els):
        s.fcheck(h)
        gone=[(n,d) for n,d in S.docs if holds(h,d)]
        gn={n for n,d in gone}
        for ix in S.idx:
            if ix:
                for n,d in gone:
                    for e in ix.ents(d,n): ix.tree.rem(e)
        S.docs=[(n,d) for n,d in S.docs if n not in gn]
        return doc(num('many',len(gone)))
    def r_index(s,S,O,h,els):
        s.room(None in S.idx)
        ix=Index([x.val for x in h.val],[x.val for x in els[2].val])
        s.ix_fits(ix,S.docs)
        i=S.idx.index(None)
        S.idx[i]=ix
        for n,d in S.docs:
            for e in ix.ents(d,n): ix.tree.add(e)
            ix.note(d)
        return doc(num('index',i))
    def getix(s,S,h):
        if not 0<=h.val<4 or S.idx[h.val] is None: raise Fault(41,-1)
        return S.idx[h.val]
    def r_drop(s,S,O,h,els):
        s.getix(S,h); S.idx[h.val]=None
        return doc(El(B,1,b'dropped'))
    def r_shape(s,S,O,h,els):
        ix=s.getix(S,h)
        lv,le,no=ix.tree.stats()
        al=ix.tree.all()
        want=sorted([e for n,d in S.docs for e in ix.ents(d,n)],key=functools.cmp_to_key(ix.tree.cmp))
        assert len(al)==len(want) and all(ix.tree.cmp(a,b)==0 for a,b in zip(al,want))
        return doc(num('entries',len(al)),num('levels',lv),num('leaves',le),num('nodes',no),El(B,int(ix.many[0]),b'first'),El(B,int(ix.many[1]),b'second'))
    def r_pipeline(s,S,O,h,els):
        b0=[d for n,d in S.docs]; b1=[d for n,d in O.docs]
        for st in h.val:
            if len(st.val)==1 and st.val[0].name==b'$match' and st.val[0].kind==D:
                s.fcheck(st.val[0])
                b0=[d for d in b0 if holds(st.val[0],d)]
            else:
                try: b0=stage(st,b0,b1)
                except SF as f: raise Fault(30+f.c,st.place)
        return s.ansroom(doc(num('many',len(b0)),El(R,b0,b'found')))
    def r_explain(s,S,O,h,els):
        s.fcheck(h)
        best=None
        for i,ix in enumerate(S.idx):
            if not ix: continue
            b1=bounds(h,ix.raw[0],ix.many[0]); b2=bounds(h,ix.raw[1],ix.many[1]) if len(ix.raw)>1 else None
            if b1 is None: rk,rg=0,1
            elif not points(b1): rk,rg=1,len(b1)
            elif b2 is None: rk,rg=2,len(b1)
            else: rk,rg=3,len(b1)*len(b2)
            if rk>0 and (best is None or (-rk,rg,i)<best[0]):
                best=((-rk,rg,i),i,rk,rg,ix,b1,b2)
        if best is None: return doc(num('index',-1),num('rank',0),num('ranges',1),num('looked',len(S.docs)))
        _,i,rk,rg,ix,b1,b2=best
        lk=0
        for n,d in S.docs:
            if any(inset(b1,e[0]) and (rk<3 or inset(b2,e[1])) for e in ix.ents(d,n)): lk+=1
        return doc(num('index',i),num('rank',rk),num('ranges',rg),num('looked',lk))
    def state(s):
        out=[]
        for S in s.sh: out.append(len(S.docs))
        for S in s.sh: out.append(sum(len(enc_val(d)) for n,d in S.docs))
        for S in s.sh: out.append(sum(1 for x in S.idx if x))
        out.append(len(s.ans))
        return out
    def dump(s):
        return ';'.join(','.join('%d:%s'%(n,enc_val(d).hex()) for n,d in S.docs) for S in s.sh)
